theorem mM8_8_223 : Cond.methodLink RX12 337 yX12_jobFor ∈ TB := tbT_8 _ (List.mem_of_getElem? (i := 223) rfl) rfl
theorem mM8_8_226 : Cond.code yX12_jobFor cX12_jobFor 5 (some .int) ∈ TB := tbT_8 _ (List.mem_of_getElem? (i := 226) rfl) rfl
theorem mM8_8_225 : Cond.instanceMethod yX12_jobFor ∈ TB := tbT_8 _ (List.mem_of_getElem? (i := 225) rfl) rfl
theorem mpM8_6_2 : Cond.selects RX12 yX12_jobFor yX12_jobFor ∈ TB := tbP_6 (yX12_jobFor, 19) (List.mem_of_getElem? (i := 2) rfl)
theorem mM8_1_11 : Cond.initialized RX12 ∈ TB := tbT_1 _ (List.mem_of_getElem? (i := 11) rfl) rfl
theorem mM8_8_167 : Cond.methodLink RX12 295 yX12_seen ∈ TB := tbT_8 _ (List.mem_of_getElem? (i := 167) rfl) rfl
theorem mM8_8_170 : Cond.code yX12_seen cX12_seen 3 (some .int) ∈ TB := tbT_8 _ (List.mem_of_getElem? (i := 170) rfl) rfl
theorem mM8_8_169 : Cond.instanceMethod yX12_seen ∈ TB := tbT_8 _ (List.mem_of_getElem? (i := 169) rfl) rfl
theorem mpM8_5_5 : Cond.selects RX12 yX12_seen yX12_seen ∈ TB := tbP_5 (yX12_seen, 19) (List.mem_of_getElem? (i := 5) rfl)
theorem mM8_7_79 : Cond.fieldLink RX12 13 "ClaimTableModel" "world" "[I" ∈ TB := tbT_7 _ (List.mem_of_getElem? (i := 79) rfl) rfl
theorem mM8_8_37 : Cond.methodLink RX12 66 yX12_in ∈ TB := tbT_8 _ (List.mem_of_getElem? (i := 37) rfl) rfl
theorem mM8_8_39 : Cond.code yX12_in cX12_in 3 (some .boolean) ∈ TB := tbT_8 _ (List.mem_of_getElem? (i := 39) rfl) rfl
theorem mM8_8_38 : Cond.static yX12_in ∈ TB := tbT_8 _ (List.mem_of_getElem? (i := 38) rfl) rfl
theorem mM8_8_106 : Cond.methodLink RX12 70 yX12_lockerOf ∈ TB := tbT_8 _ (List.mem_of_getElem? (i := 106) rfl) rfl
theorem mM8_8_109 : Cond.code yX12_lockerOf cX12_lockerOf 2 (some .int) ∈ TB := tbT_8 _ (List.mem_of_getElem? (i := 109) rfl) rfl
theorem mM8_8_108 : Cond.instanceMethod yX12_lockerOf ∈ TB := tbT_8 _ (List.mem_of_getElem? (i := 108) rfl) rfl
theorem mpM8_4_10 : Cond.selects RX12 yX12_lockerOf yX12_lockerOf ∈ TB := tbP_4 (yX12_lockerOf, 19) (List.mem_of_getElem? (i := 10) rfl)
theorem mM8_8_171 : Cond.methodLink RX12 298 yX12_isState ∈ TB := tbT_8 _ (List.mem_of_getElem? (i := 171) rfl) rfl
theorem mM8_8_174 : Cond.code yX12_isState cX12_isState 3 (some .boolean) ∈ TB := tbT_8 _ (List.mem_of_getElem? (i := 174) rfl) rfl
theorem mM8_8_173 : Cond.instanceMethod yX12_isState ∈ TB := tbT_8 _ (List.mem_of_getElem? (i := 173) rfl) rfl
theorem mpM8_5_6 : Cond.selects RX12 yX12_isState yX12_isState ∈ TB := tbP_5 (yX12_isState, 19) (List.mem_of_getElem? (i := 6) rfl)
theorem mM8_7_233 : Cond.methodLink RX12 63 yX12_sessionAt ∈ TB := tbT_7 _ (List.mem_of_getElem? (i := 233) rfl) rfl
theorem mM8_7_235 : Cond.code yX12_sessionAt cX12_sessionAt 2 (some .int) ∈ TB := tbT_7 _ (List.mem_of_getElem? (i := 235) rfl) rfl
theorem mM8_7_234 : Cond.static yX12_sessionAt ∈ TB := tbT_7 _ (List.mem_of_getElem? (i := 234) rfl) rfl
theorem mM8_7_77 : Cond.fieldLink RX12 3 "ClaimTableModel" "thrown" "I" ∈ TB := tbT_7 _ (List.mem_of_getElem? (i := 77) rfl) rfl
theorem mM8_8_33 : Cond.methodLink RX12 245 yX12_noSession ∈ TB := tbT_8 _ (List.mem_of_getElem? (i := 33) rfl) rfl
theorem mM8_8_36 : Cond.code yX12_noSession cX12_noSession 2 (some .boolean) ∈ TB := tbT_8 _ (List.mem_of_getElem? (i := 36) rfl) rfl
theorem mM8_8_35 : Cond.instanceMethod yX12_noSession ∈ TB := tbT_8 _ (List.mem_of_getElem? (i := 35) rfl) rfl
theorem mpM8_3_14 : Cond.selects RX12 yX12_noSession yX12_noSession ∈ TB := tbP_3 (yX12_noSession, 19) (List.mem_of_getElem? (i := 14) rfl)
theorem mM8_8_25 : Cond.methodLink RX12 199 yX12_throwsIf ∈ TB := tbT_8 _ (List.mem_of_getElem? (i := 25) rfl) rfl
theorem mM8_8_28 : Cond.code yX12_throwsIf cX12_throwsIf 3 (some .boolean) ∈ TB := tbT_8 _ (List.mem_of_getElem? (i := 28) rfl) rfl
theorem mM8_8_27 : Cond.instanceMethod yX12_throwsIf ∈ TB := tbT_8 _ (List.mem_of_getElem? (i := 27) rfl) rfl
theorem mpM8_3_13 : Cond.selects RX12 yX12_throwsIf yX12_throwsIf ∈ TB := tbP_3 (yX12_throwsIf, 19) (List.mem_of_getElem? (i := 13) rfl)
theorem mM8_8_147 : Cond.methodLink RX12 286 yX12_lockedBy ∈ TB := tbT_8 _ (List.mem_of_getElem? (i := 147) rfl) rfl
theorem mM8_8_150 : Cond.code yX12_lockedBy cX12_lockedBy 4 (some .int) ∈ TB := tbT_8 _ (List.mem_of_getElem? (i := 150) rfl) rfl
theorem mM8_8_149 : Cond.instanceMethod yX12_lockedBy ∈ TB := tbT_8 _ (List.mem_of_getElem? (i := 149) rfl) rfl
theorem mpM8_5_1 : Cond.selects RX12 yX12_lockedBy yX12_lockedBy ∈ TB := tbP_5 (yX12_lockedBy, 19) (List.mem_of_getElem? (i := 1) rfl)
theorem mM8_9_93 : Cond.methodLink RX12 380 yX12_holdsOf ∈ TB := tbT_9 _ (List.mem_of_getElem? (i := 93) rfl) rfl
theorem mM8_9_96 : Cond.code yX12_holdsOf cX12_holdsOf 9 (some .int) ∈ TB := tbT_9 _ (List.mem_of_getElem? (i := 96) rfl) rfl
theorem mM8_9_95 : Cond.instanceMethod yX12_holdsOf ∈ TB := tbT_9 _ (List.mem_of_getElem? (i := 95) rfl) rfl
theorem mpM8_6_15 : Cond.selects RX12 yX12_holdsOf yX12_holdsOf ∈ TB := tbP_6 (yX12_holdsOf, 19) (List.mem_of_getElem? (i := 15) rfl)
theorem mM8_8_13 : Cond.methodLink RX12 153 yX12_planAt ∈ TB := tbT_8 _ (List.mem_of_getElem? (i := 13) rfl) rfl
theorem mM8_8_15 : Cond.code yX12_planAt cX12_planAt 2 (some .int) ∈ TB := tbT_8 _ (List.mem_of_getElem? (i := 15) rfl) rfl
theorem mM8_8_14 : Cond.static yX12_planAt ∈ TB := tbT_8 _ (List.mem_of_getElem? (i := 14) rfl) rfl
theorem mM8_9_49 : Cond.methodLink RX12 356 yX12_timeOf ∈ TB := tbT_9 _ (List.mem_of_getElem? (i := 49) rfl) rfl
theorem mM8_9_52 : Cond.code yX12_timeOf cX12_timeOf 3 (some .int) ∈ TB := tbT_9 _ (List.mem_of_getElem? (i := 52) rfl) rfl
theorem mM8_9_51 : Cond.instanceMethod yX12_timeOf ∈ TB := tbT_9 _ (List.mem_of_getElem? (i := 51) rfl) rfl
theorem mpM8_6_10 : Cond.selects RX12 yX12_timeOf yX12_timeOf ∈ TB := tbP_6 (yX12_timeOf, 19) (List.mem_of_getElem? (i := 10) rfl)
theorem mM8_9_69 : Cond.methodLink RX12 374 yX12_keepsAll ∈ TB := tbT_9 _ (List.mem_of_getElem? (i := 69) rfl) rfl
theorem mM8_9_72 : Cond.code yX12_keepsAll cX12_keepsAll 2 none ∈ TB := tbT_9 _ (List.mem_of_getElem? (i := 72) rfl) rfl
theorem mM8_9_71 : Cond.instanceMethod yX12_keepsAll ∈ TB := tbT_9 _ (List.mem_of_getElem? (i := 71) rfl) rfl
theorem mpM8_6_13 : Cond.selects RX12 yX12_keepsAll yX12_keepsAll ∈ TB := tbP_6 (yX12_keepsAll, 19) (List.mem_of_getElem? (i := 13) rfl)
theorem mM8_8_155 : Cond.methodLink RX12 328 yX12_claims ∈ TB := tbT_8 _ (List.mem_of_getElem? (i := 155) rfl) rfl
theorem mM8_8_158 : Cond.code yX12_claims cX12_claims 6 (some .int) ∈ TB := tbT_8 _ (List.mem_of_getElem? (i := 158) rfl) rfl
theorem mM8_8_157 : Cond.instanceMethod yX12_claims ∈ TB := tbT_8 _ (List.mem_of_getElem? (i := 157) rfl) rfl
theorem mpM8_5_2 : Cond.selects RX12 yX12_claims yX12_claims ∈ TB := tbP_5 (yX12_claims, 19) (List.mem_of_getElem? (i := 2) rfl)
theorem mM8_9_73 : Cond.methodLink RX12 377 yX12_bringsBack ∈ TB := tbT_9 _ (List.mem_of_getElem? (i := 73) rfl) rfl
theorem mM8_9_76 : Cond.code yX12_bringsBack cX12_bringsBack 2 none ∈ TB := tbT_9 _ (List.mem_of_getElem? (i := 76) rfl) rfl
theorem mM8_9_75 : Cond.instanceMethod yX12_bringsBack ∈ TB := tbT_9 _ (List.mem_of_getElem? (i := 75) rfl) rfl
theorem mpM8_6_14 : Cond.selects RX12 yX12_bringsBack yX12_bringsBack ∈ TB := tbP_6 (yX12_bringsBack, 19) (List.mem_of_getElem? (i := 14) rfl)
theorem mM8_7_92 : Cond.fieldLink RX12 39 "ClaimTableModel" "claimed" "[I" ∈ TB := tbT_7 _ (List.mem_of_getElem? (i := 92) rfl) rfl
theorem mM8_8_219 : Cond.methodLink RX12 340 yX12_ownJobFor ∈ TB := tbT_8 _ (List.mem_of_getElem? (i := 219) rfl) rfl
theorem mM8_8_222 : Cond.code yX12_ownJobFor cX12_ownJobFor 4 (some .int) ∈ TB := tbT_8 _ (List.mem_of_getElem? (i := 222) rfl) rfl
theorem mM8_8_221 : Cond.instanceMethod yX12_ownJobFor ∈ TB := tbT_8 _ (List.mem_of_getElem? (i := 221) rfl) rfl
theorem mpM8_6_1 : Cond.selects RX12 yX12_ownJobFor yX12_ownJobFor ∈ TB := tbP_6 (yX12_ownJobFor, 19) (List.mem_of_getElem? (i := 1) rfl)
theorem mM8_8_163 : Cond.methodLink RX12 313 yX12_mayBeClaimed ∈ TB := tbT_8 _ (List.mem_of_getElem? (i := 163) rfl) rfl
theorem mM8_8_166 : Cond.code yX12_mayBeClaimed cX12_mayBeClaimed 4 (some .boolean) ∈ TB := tbT_8 _ (List.mem_of_getElem? (i := 166) rfl) rfl
theorem mM8_8_165 : Cond.instanceMethod yX12_mayBeClaimed ∈ TB := tbT_8 _ (List.mem_of_getElem? (i := 165) rfl) rfl
theorem mpM8_5_4 : Cond.selects RX12 yX12_mayBeClaimed yX12_mayBeClaimed ∈ TB := tbP_5 (yX12_mayBeClaimed, 19) (List.mem_of_getElem? (i := 4) rfl)
theorem mM8_7_93 : Cond.fieldLink RX12 42 "ClaimTableModel" "next" "[I" ∈ TB := tbT_7 _ (List.mem_of_getElem? (i := 93) rfl) rfl
theorem mM8_9_109 : Cond.methodLink RX12 383 yX12_claimSeen ∈ TB := tbT_9 _ (List.mem_of_getElem? (i := 109) rfl) rfl
theorem mM8_9_112 : Cond.code yX12_claimSeen cX12_claimSeen 5 (some .int) ∈ TB := tbT_9 _ (List.mem_of_getElem? (i := 112) rfl) rfl
theorem mM8_9_111 : Cond.instanceMethod yX12_claimSeen ∈ TB := tbT_9 _ (List.mem_of_getElem? (i := 111) rfl) rfl
theorem mpM8_7_0 : Cond.selects RX12 yX12_claimSeen yX12_claimSeen ∈ TB := tbP_7 (yX12_claimSeen, 19) (List.mem_of_getElem? (i := 0) rfl)
theorem mM8_7_202 : Cond.methodLink RX12 59 yX12_numberOf ∈ TB := tbT_7 _ (List.mem_of_getElem? (i := 202) rfl) rfl
theorem mM8_7_205 : Cond.code yX12_numberOf cX12_numberOf 2 (some .int) ∈ TB := tbT_7 _ (List.mem_of_getElem? (i := 205) rfl) rfl
theorem mM8_7_204 : Cond.instanceMethod yX12_numberOf ∈ TB := tbT_7 _ (List.mem_of_getElem? (i := 204) rfl) rfl
theorem mpM8_3_3 : Cond.selects RX12 yX12_numberOf yX12_numberOf ∈ TB := tbP_3 (yX12_numberOf, 19) (List.mem_of_getElem? (i := 3) rfl)
theorem mM8_8_175 : Cond.methodLink RX12 301 yX12_isOthers ∈ TB := tbT_8 _ (List.mem_of_getElem? (i := 175) rfl) rfl
theorem mM8_8_178 : Cond.code yX12_isOthers cX12_isOthers 3 (some .boolean) ∈ TB := tbT_8 _ (List.mem_of_getElem? (i := 178) rfl) rfl
theorem mM8_8_177 : Cond.instanceMethod yX12_isOthers ∈ TB := tbT_8 _ (List.mem_of_getElem? (i := 177) rfl) rfl
theorem mpM8_5_7 : Cond.selects RX12 yX12_isOthers yX12_isOthers ∈ TB := tbP_5 (yX12_isOthers, 19) (List.mem_of_getElem? (i := 7) rfl)
theorem mM8_8_179 : Cond.methodLink RX12 304 yX12_hasLesser ∈ TB := tbT_8 _ (List.mem_of_getElem? (i := 179) rfl) rfl
theorem mM8_8_182 : Cond.code yX12_hasLesser cX12_hasLesser 6 (some .boolean) ∈ TB := tbT_8 _ (List.mem_of_getElem? (i := 182) rfl) rfl
theorem mM8_8_181 : Cond.instanceMethod yX12_hasLesser ∈ TB := tbT_8 _ (List.mem_of_getElem? (i := 181) rfl) rfl
theorem mpM8_5_8 : Cond.selects RX12 yX12_hasLesser yX12_hasLesser ∈ TB := tbP_5 (yX12_hasLesser, 19) (List.mem_of_getElem? (i := 8) rfl)
theorem mM8_8_191 : Cond.methodLink RX12 307 yX12_isFull ∈ TB := tbT_8 _ (List.mem_of_getElem? (i := 191) rfl) rfl
theorem mM8_8_194 : Cond.code yX12_isFull cX12_isFull 6 (some .boolean) ∈ TB := tbT_8 _ (List.mem_of_getElem? (i := 194) rfl) rfl
theorem mM8_8_193 : Cond.instanceMethod yX12_isFull ∈ TB := tbT_8 _ (List.mem_of_getElem? (i := 193) rfl) rfl
theorem mpM8_5_11 : Cond.selects RX12 yX12_isFull yX12_isFull ∈ TB := tbP_5 (yX12_isFull, 19) (List.mem_of_getElem? (i := 11) rfl)
theorem mM8_8_195 : Cond.methodLink RX12 316 yX12_isAsAsked ∈ TB := tbT_8 _ (List.mem_of_getElem? (i := 195) rfl) rfl
theorem mM8_8_198 : Cond.code yX12_isAsAsked cX12_isAsAsked 9 (some .boolean) ∈ TB := tbT_8 _ (List.mem_of_getElem? (i := 198) rfl) rfl
theorem mM8_8_197 : Cond.instanceMethod yX12_isAsAsked ∈ TB := tbT_8 _ (List.mem_of_getElem? (i := 197) rfl) rfl
theorem mpM8_5_12 : Cond.selects RX12 yX12_isAsAsked yX12_isAsAsked ∈ TB := tbP_5 (yX12_isAsAsked, 19) (List.mem_of_getElem? (i := 12) rfl)
theorem mM8_7_94 : Cond.fieldLink RX12 45 "ClaimTableModel" "claimers" "[I" ∈ TB := tbT_7 _ (List.mem_of_getElem? (i := 94) rfl) rfl
def rm_X12_cause : Room := { frames := 5, cells := 0, slots := 0, locals := 109 }
def F_X12_cause (a1 : Int32) (a2 : Int32) (a3 : Int32) (S : sSt) (k : Int32 → sSt → Prop) : Prop := F_X12_jobFor a1 a2 S (fun r1 S2 => ((¬ r1 = (-1) → F_X12_seen r1 a1 S2 (fun r4 S5 => ix (r4 + 7) 10421 (fun j6 => F_X12_in a3 0 ((S5.1 1 0 j6) - 1) S5 (fun r7 S8 => ((r7 = 0 → k (-1) S8) ∧ (¬ r7 = 0 → ix ((r4 + 13) + a3) 10421 (fun j10 => k (S8.1 1 0 j10) S8))))))) ∧ (r1 = (-1) → k 0 S2)))
set_option maxHeartbeats 4000000 in
set_option maxRecDepth 100000 in
theorem c_X12_cause (l : Launch) {D : va_G} {cy : Nat → ClassId} {b z : Nat} {tx : TX} {a1 : Int32} {a2 : Int32} {a3 : Int32} {S : sSt} {k : Int32 → sSt → Prop} (h : F_X12_cause a1 a2 a3 S k) : Met l yX12_cause (Cond.code yX12_cause cX12_cause 6 (some .int) :: TB) rm_X12_cause (va_Pc [.ref (b + adM 0 0), .int a1, .int a2, .int a3] (fun U => RelM D cy b z tx S U U.heap ∧ TxR tx U)) (PiM D cy b z tx k) 0 0 (gA b 12 z) := by
  refine Met.ofW (cc := cX12_cause) (maxL := 6) (ret := (some .int)) (by decide) rfl ?_
  intro p e s m args below meth c s₁ B hml hv
  obtain ⟨rfl, hR, hT⟩ := hv
  have C0 : CallFix p m c cX12_cause 6 s _ TB RX12 := ⟨B.exec, B.bytes, hml, findClass_of_methodNamed B.named, fun w hw => atoms_spec B.pre w (List.mem_cons_of_mem _ hw)⟩
  have hr := B.returns
  have hlk := B.notSynchronized
  have hx := C0.1
  have hb := C0.2.1
  have hS : va_S (gA b 12 z) s.heap s.heap [] := va_S.rf
  have hl := lv_entry ([.ref (b + adM 0 0), .int a1, .int a2, .int a3]) (n := 6) (Nat.le_of_ble_eq_true rfl)
  rw [lg_entry_eq]
  generalize (lg_sl ([.ref (b + adM 0 0), .int a1, .int a2, .int a3]) ++ List.replicate (6 - (lg_sl ([.ref (b + adM 0 0), .int a1, .int a2, .int a3])).length) Slot.unset).toArray = ls at hl ⊢
  have hl : lv_has ls 6 [(0, .ref (b + adM 0 0)), (1, .int a1), (2, .int a2), (3, .int a3)] := hl
  show W p l e rm_X12_cause s m _ below meth c s.heap [] 0 0 (MQ below (PiM D cy b z tx k) _ s 0 0 (gA b 12 z)) _
  unfold F_X12_cause at h
  refine lv_aload_n hx hb dX12_cause_0 rfl (lv_at hl 0 rfl) ?_
  refine lv_iload_n hx hb dX12_cause_1 rfl (lv_at hl 1 rfl) ?_
  refine lv_iload_n hx hb dX12_cause_2 rfl (lv_at hl 2 rfl) ?_
  refine qM_Vi (As := [.int a1, .int a2]) (rest := []) C0 (c_X12_jobFor l h) (cwV 2 C0.2.2.2.2 (tbV mM8_8_223 ⟨mM8_8_225, mpM8_6_2, mM8_1_11, mM8_8_226⟩) rfl rfl rfl (by decide +kernel) ⟨Nat.le_of_ble_eq_true rfl, Nat.le_of_ble_eq_true rfl⟩) (rcM_0 hR Nat.zero_lt_one) hR hT hS rfl hl.1 rfl (Nat.le_of_ble_eq_true rfl) dX12_cause_3 ⟨Nat.zero_le _, Nat.zero_le _⟩ (fun r1 S2 H locs h hR hS => ?_)
  refine lv_istore (lv' := [(4, .int r1), (0, .ref (b + adM 0 0)), (1, .int a1), (2, .int a2), (3, .int a3)]) hx hb dX12_cause_6 hl (by decide) rfl (fun ls hl => ?_)
  refine lv_iload hx hb dX12_cause_8 (lv_at hl 0 rfl) ?_
  refine lv_iconst (v := (-1)) hx hb dX12_cause_10 (by decide) ?_
  refine lv_icmp_ne (tgt := 16) hx hb dX12_cause_11 (by decide) (fun c3 => ?_) (fun c3 => ?_)
  · have h := h.1 c3
    refine lv_aload_n hx hb dX12_cause_16 rfl (lv_at hl 1 rfl) ?_
    refine lv_iload hx hb dX12_cause_17 (lv_at hl 0 rfl) ?_
    refine lv_iload_n hx hb dX12_cause_19 rfl (lv_at hl 2 rfl) ?_
    refine qM_Vi (As := [.int r1, .int a1]) (rest := []) C0 (c_X12_seen l h) (cwV 2 C0.2.2.2.2 (tbV mM8_8_167 ⟨mM8_8_169, mpM8_5_5, mM8_1_11, mM8_8_170⟩) rfl rfl rfl (by decide +kernel) ⟨Nat.le_of_ble_eq_true rfl, Nat.le_of_ble_eq_true rfl⟩) (rcM_0 hR Nat.zero_lt_one) hR hT hS rfl hl.1 rfl (Nat.le_of_ble_eq_true rfl) dX12_cause_20 ⟨Nat.zero_le _, Nat.zero_le _⟩ (fun r4 S5 H locs h hR hS => ?_)
    refine lv_istore (lv' := [(5, .int r4), (4, .int r1), (0, .ref (b + adM 0 0)), (1, .int a1), (2, .int a2), (3, .int a3)]) hx hb dX12_cause_23 hl (by decide) rfl (fun ls hl => ?_)
    refine lv_iload_n hx hb dX12_cause_25 rfl (lv_at hl 5 rfl) ?_
    refine lv_iconst (v := 0) hx hb dX12_cause_26 (by decide) ?_
    refine lv_aload_n hx hb dX12_cause_27 rfl (lv_at hl 2 rfl) ?_
    refine gM_0_2 C0 hR Nat.zero_lt_one tbs_wsX120 mM8_7_79 dX12_cause_28 ?_
    refine lv_iload hx hb dX12_cause_31 (lv_at hl 0 rfl) ?_
    refine lv_bipush (v := 7) hx hb dX12_cause_33 (by decide) ?_
    refine lv_iadd hx hb dX12_cause_35 ?_
    obtain ⟨j6, hj6, ej6, h⟩ := h
    refine lM_1 C0 hR Nat.zero_lt_one hj6 ej6 dX12_cause_36 ?_
    refine lv_iconst (v := 1) hx hb dX12_cause_37 (by decide) ?_
    refine lv_isub hx hb dX12_cause_38 ?_
    refine qM_Si (As := [.int a3, .int 0, .int ((S5.1 1 0 j6) - 1)]) (rest := []) C0 (c_X12_in l h) (va_cwS 3 C0.2.2.2.2 (tbS mM8_8_37 ⟨mM8_8_38, mM8_1_11, mM8_8_39⟩) rfl rfl rfl (by decide +kernel) ⟨Nat.le_of_ble_eq_true rfl, Nat.le_of_ble_eq_true rfl⟩) hR hT hS rfl hl.1 rfl (Nat.le_of_ble_eq_true rfl) dX12_cause_39 ⟨Nat.zero_le _, Nat.zero_le _⟩ (fun r7 S8 H locs h hR hS => ?_)
    refine lv_if_eq (tgt := 60) hx hb dX12_cause_42 (by decide) (fun c9 => ?_) (fun c9 => ?_)
    · have h := h.1 c9
      refine lv_iconst (v := (-1)) hx hb dX12_cause_60 (by decide) ?_
      exact rtM_i C0 hr hlk hR hS h dX12_cause_61
    · have h := h.2 c9
      refine lv_aload_n hx hb dX12_cause_45 rfl (lv_at hl 2 rfl) ?_
      refine gM_0_2 C0 hR Nat.zero_lt_one tbs_wsX120 mM8_7_79 dX12_cause_46 ?_
      refine lv_iload hx hb dX12_cause_49 (lv_at hl 0 rfl) ?_
      refine lv_bipush (v := 13) hx hb dX12_cause_51 (by decide) ?_
      refine lv_iadd hx hb dX12_cause_53 ?_
      refine lv_iload_n hx hb dX12_cause_54 rfl (lv_at hl 5 rfl) ?_
      refine lv_iadd hx hb dX12_cause_55 ?_
      obtain ⟨j10, hj10, ej10, h⟩ := h
      refine lM_1 C0 hR Nat.zero_lt_one hj10 ej10 dX12_cause_56 ?_
      refine lv_goto (tgt := 61) hx hb dX12_cause_57 (by decide) ?_
      exact rtM_i C0 hr hlk hR hS h dX12_cause_61
  · have h := h.2 c3
    refine lv_iconst (v := 0) hx hb dX12_cause_14 (by decide) ?_
    exact rtM_i C0 hr hlk hR hS h dX12_cause_15

def rm_X12_locked : Room := { frames := 5, cells := 0, slots := 0, locals := 109 }
def F_X12_locked (a1 : Int32) (S : sSt) (k : Int32 → sSt → Prop) : Prop := F_X12_jobFor (-1) a1 S (fun r1 S2 => ((¬ r1 = (-1) → F_X12_lockerOf r1 S2 (fun r4 S5 => k r4 S5)) ∧ (r1 = (-1) → k 0 S2)))
set_option maxHeartbeats 4000000 in
set_option maxRecDepth 100000 in
theorem c_X12_locked (l : Launch) {D : va_G} {cy : Nat → ClassId} {b z : Nat} {tx : TX} {a1 : Int32} {S : sSt} {k : Int32 → sSt → Prop} (h : F_X12_locked a1 S k) : Met l yX12_locked (Cond.code yX12_locked cX12_locked 3 (some .int) :: TB) rm_X12_locked (va_Pc [.ref (b + adM 0 0), .int a1] (fun U => RelM D cy b z tx S U U.heap ∧ TxR tx U)) (PiM D cy b z tx k) 0 0 (gA b 12 z) := by
  refine Met.ofW (cc := cX12_locked) (maxL := 3) (ret := (some .int)) (by decide) rfl ?_
  intro p e s m args below meth c s₁ B hml hv
  obtain ⟨rfl, hR, hT⟩ := hv
  have C0 : CallFix p m c cX12_locked 3 s _ TB RX12 := ⟨B.exec, B.bytes, hml, findClass_of_methodNamed B.named, fun w hw => atoms_spec B.pre w (List.mem_cons_of_mem _ hw)⟩
  have hr := B.returns
  have hlk := B.notSynchronized
  have hx := C0.1
  have hb := C0.2.1
  have hS : va_S (gA b 12 z) s.heap s.heap [] := va_S.rf
  have hl := lv_entry ([.ref (b + adM 0 0), .int a1]) (n := 3) (Nat.le_of_ble_eq_true rfl)
  rw [lg_entry_eq]
  generalize (lg_sl ([.ref (b + adM 0 0), .int a1]) ++ List.replicate (3 - (lg_sl ([.ref (b + adM 0 0), .int a1])).length) Slot.unset).toArray = ls at hl ⊢
  have hl : lv_has ls 3 [(0, .ref (b + adM 0 0)), (1, .int a1)] := hl
  show W p l e rm_X12_locked s m _ below meth c s.heap [] 0 0 (MQ below (PiM D cy b z tx k) _ s 0 0 (gA b 12 z)) _
  unfold F_X12_locked at h
  refine lv_aload_n hx hb dX12_locked_0 rfl (lv_at hl 0 rfl) ?_
  refine lv_iconst (v := (-1)) hx hb dX12_locked_1 (by decide) ?_
  refine lv_iload_n hx hb dX12_locked_2 rfl (lv_at hl 1 rfl) ?_
  refine qM_Vi (As := [.int (-1), .int a1]) (rest := []) C0 (c_X12_jobFor l h) (cwV 2 C0.2.2.2.2 (tbV mM8_8_223 ⟨mM8_8_225, mpM8_6_2, mM8_1_11, mM8_8_226⟩) rfl rfl rfl (by decide +kernel) ⟨Nat.le_of_ble_eq_true rfl, Nat.le_of_ble_eq_true rfl⟩) (rcM_0 hR Nat.zero_lt_one) hR hT hS rfl hl.1 rfl (Nat.le_of_ble_eq_true rfl) dX12_locked_3 ⟨Nat.zero_le _, Nat.zero_le _⟩ (fun r1 S2 H locs h hR hS => ?_)
  refine lv_istore_n (lv' := [(2, .int r1), (0, .ref (b + adM 0 0)), (1, .int a1)]) hx hb dX12_locked_6 rfl hl (by decide) rfl (fun ls hl => ?_)
  refine lv_iload_n hx hb dX12_locked_7 rfl (lv_at hl 0 rfl) ?_
  refine lv_iconst (v := (-1)) hx hb dX12_locked_8 (by decide) ?_
  refine lv_icmp_ne (tgt := 16) hx hb dX12_locked_9 (by decide) (fun c3 => ?_) (fun c3 => ?_)
  · have h := h.1 c3
    refine lv_aload_n hx hb dX12_locked_16 rfl (lv_at hl 1 rfl) ?_
    refine lv_iload_n hx hb dX12_locked_17 rfl (lv_at hl 0 rfl) ?_
    refine qM_Vi (As := [.int r1]) (rest := []) C0 (c_X12_lockerOf l h) (cwV 1 C0.2.2.2.2 (tbV mM8_8_106 ⟨mM8_8_108, mpM8_4_10, mM8_1_11, mM8_8_109⟩) rfl rfl rfl (by decide +kernel) ⟨Nat.le_of_ble_eq_true rfl, Nat.le_of_ble_eq_true rfl⟩) (rcM_0 hR Nat.zero_lt_one) hR hT hS rfl hl.1 rfl (Nat.le_of_ble_eq_true rfl) dX12_locked_18 ⟨Nat.zero_le _, Nat.zero_le _⟩ (fun r4 S5 H locs h hR hS => ?_)
    exact rtM_i C0 hr hlk hR hS h dX12_locked_21
  · have h := h.2 c3
    refine lv_iconst (v := 0) hx hb dX12_locked_12 (by decide) ?_
    refine lv_goto (tgt := 21) hx hb dX12_locked_13 (by decide) ?_
    exact rtM_i C0 hr hlk hR hS h dX12_locked_21

def rm_X12_holdsOf : Room := { frames := 4, cells := 0, slots := 0, locals := 85 }
def B_X12_holdsOf_168 (kk5 : Int32 → Int32 → Int32 → Int32 → sSt → Prop) (a1 : Int32) (a2 : Int32) (a3 : Int32) (a4 : Int32) (S : sSt) (k : Int32 → sSt → Prop) : Prop := ∀ x7 : Int32, x7 = a4 + 1 → kk5 a1 a2 a3 x7 S
set_option maxHeartbeats 4000000 in
set_option maxRecDepth 100000 in
theorem Bw_X12_holdsOf_168 {p : Program} {l : Launch} {e : Env} {s : State} {m : MethodId} {args : Array Value} {below : List Frame} {meth : Method} {c : Code} {D : va_G} {cy : Nat → ClassId} {b z : Nat} {tx : TX} (C0 : CallFix p m c cX12_holdsOf 9 s args TB RX12) (hr : meth.sig.returnType = (some .int)) (hlk : meth.locks = false) (hT : TxR tx s) {k : Int32 → sSt → Prop} {kk5 : Int32 → Int32 → Int32 → Int32 → sSt → Prop} (ih5 : ∀ (a1 : Int32) (a2 : Int32) (a3 : Int32) (a4 : Int32) (S : sSt) (H : Heap) (locs : List Loc) (ls : Array Slot) , kk5 a1 a2 a3 a4 S → RelM D cy b z tx S s H → va_S (gA b 12 z) s.heap H locs → lv_has ls 9 [(0, .ref (b + adM 0 0)), (1, .int a1), (2, .int a2), (3, .int a3), (4, .int a4)] → W p l e rm_X12_holdsOf s m args below meth c H locs 0 0 (MQ below (PiM D cy b z tx k) args s 0 0 (gA b 12 z)) (F0 m 5 ls [])) : ∀ (a1 : Int32) (a2 : Int32) (a3 : Int32) (a4 : Int32) (S : sSt) (H : Heap) (locs : List Loc) (ls : Array Slot) , B_X12_holdsOf_168 kk5 a1 a2 a3 a4 S k → RelM D cy b z tx S s H → va_S (gA b 12 z) s.heap H locs → lv_has ls 9 [(0, .ref (b + adM 0 0)), (1, .int a1), (2, .int a2), (3, .int a3), (4, .int a4)] → W p l e rm_X12_holdsOf s m args below meth c H locs 0 0 (MQ below (PiM D cy b z tx k) args s 0 0 (gA b 12 z)) (F0 m 168 ls []) := by
  intro a1 a2 a3 a4 S H locs ls h hR hS hl
  have hx := C0.1
  have hb := C0.2.1
  unfold B_X12_holdsOf_168 at h
  obtain ⟨x7, ex7⟩ : ∃ x7 : Int32, x7 = a4 + 1 := ⟨_, rfl⟩
  have h := h x7 ex7
  refine w_iinc (v0 := 1) (lv' := [(4, .int x7), (0, .ref (b + adM 0 0)), (1, .int a1), (2, .int a2), (3, .int a3)]) C0 dX12_holdsOf_168 hl (k := 4) rfl (by decide) (by decide) x7 ex7 rfl (fun ls hl => ?_)
  refine lv_goto (tgt := 5) hx hb dX12_holdsOf_171 (by decide) ?_
  exact ih5 a1 a2 a3 x7 S _ _ _  h hR hS (lv_sub hl [1, 2, 3, 4, 0] rfl)
def B_X12_holdsOf_166 (kk5 : Int32 → Int32 → Int32 → Int32 → sSt → Prop) (a1 : Int32) (a2 : Int32) (a4 : Int32) (t0 : Int32) (t1 : Int32) (S : sSt) (k : Int32 → sSt → Prop) : Prop := ∀ x19 : Int32, x19 = (t0 + t1) → B_X12_holdsOf_168 kk5 a1 a2 x19 a4 S k
set_option maxHeartbeats 4000000 in
set_option maxRecDepth 100000 in
theorem Bw_X12_holdsOf_166 {p : Program} {l : Launch} {e : Env} {s : State} {m : MethodId} {args : Array Value} {below : List Frame} {meth : Method} {c : Code} {D : va_G} {cy : Nat → ClassId} {b z : Nat} {tx : TX} (C0 : CallFix p m c cX12_holdsOf 9 s args TB RX12) (hr : meth.sig.returnType = (some .int)) (hlk : meth.locks = false) (hT : TxR tx s) {k : Int32 → sSt → Prop} {kk5 : Int32 → Int32 → Int32 → Int32 → sSt → Prop} (ih5 : ∀ (a1 : Int32) (a2 : Int32) (a3 : Int32) (a4 : Int32) (S : sSt) (H : Heap) (locs : List Loc) (ls : Array Slot) , kk5 a1 a2 a3 a4 S → RelM D cy b z tx S s H → va_S (gA b 12 z) s.heap H locs → lv_has ls 9 [(0, .ref (b + adM 0 0)), (1, .int a1), (2, .int a2), (3, .int a3), (4, .int a4)] → W p l e rm_X12_holdsOf s m args below meth c H locs 0 0 (MQ below (PiM D cy b z tx k) args s 0 0 (gA b 12 z)) (F0 m 5 ls [])) : ∀ (a1 : Int32) (a2 : Int32) (a4 : Int32) (t0 : Int32) (t1 : Int32) (S : sSt) (H : Heap) (locs : List Loc) (ls : Array Slot) , B_X12_holdsOf_166 kk5 a1 a2 a4 t0 t1 S k → RelM D cy b z tx S s H → va_S (gA b 12 z) s.heap H locs → lv_has ls 9 [(0, .ref (b + adM 0 0)), (1, .int a1), (2, .int a2), (4, .int a4)] → W p l e rm_X12_holdsOf s m args below meth c H locs 0 0 (MQ below (PiM D cy b z tx k) args s 0 0 (gA b 12 z)) (F0 m 166 ls [.int t1, .int t0]) := by
  intro a1 a2 a4 t0 t1 S H locs ls h hR hS hl
  have hx := C0.1
  have hb := C0.2.1
  unfold B_X12_holdsOf_166 at h
  refine lv_iadd hx hb dX12_holdsOf_166 ?_
  refine lv_topi (fun x19 ex19 => ?_)
  have h := h x19 ex19
  refine lv_istore_n (lv' := [(3, .int x19), (0, .ref (b + adM 0 0)), (1, .int a1), (2, .int a2), (4, .int a4)]) hx hb dX12_holdsOf_167 rfl hl (by decide) rfl (fun ls hl => ?_)
  exact Bw_X12_holdsOf_168 C0 hr hlk hT ih5 a1 a2 x19 a4 S _ _ _ h hR hS (lv_sub hl [1, 2, 3, 0, 4] rfl)
def B_X12_holdsOf_153 (kk5 : Int32 → Int32 → Int32 → Int32 → sSt → Prop) (a1 : Int32) (a2 : Int32) (a3 : Int32) (a4 : Int32) (t0 : Int32) (S : sSt) (k : Int32 → sSt → Prop) : Prop := ((t0 = 0 → B_X12_holdsOf_166 kk5 a1 a2 a4 a3 0 S k) ∧ (¬ t0 = 0 → B_X12_holdsOf_166 kk5 a1 a2 a4 a3 1 S k))
set_option maxHeartbeats 4000000 in
set_option maxRecDepth 100000 in
theorem Bw_X12_holdsOf_153 {p : Program} {l : Launch} {e : Env} {s : State} {m : MethodId} {args : Array Value} {below : List Frame} {meth : Method} {c : Code} {D : va_G} {cy : Nat → ClassId} {b z : Nat} {tx : TX} (C0 : CallFix p m c cX12_holdsOf 9 s args TB RX12) (hr : meth.sig.returnType = (some .int)) (hlk : meth.locks = false) (hT : TxR tx s) {k : Int32 → sSt → Prop} {kk5 : Int32 → Int32 → Int32 → Int32 → sSt → Prop} (ih5 : ∀ (a1 : Int32) (a2 : Int32) (a3 : Int32) (a4 : Int32) (S : sSt) (H : Heap) (locs : List Loc) (ls : Array Slot) , kk5 a1 a2 a3 a4 S → RelM D cy b z tx S s H → va_S (gA b 12 z) s.heap H locs → lv_has ls 9 [(0, .ref (b + adM 0 0)), (1, .int a1), (2, .int a2), (3, .int a3), (4, .int a4)] → W p l e rm_X12_holdsOf s m args below meth c H locs 0 0 (MQ below (PiM D cy b z tx k) args s 0 0 (gA b 12 z)) (F0 m 5 ls [])) : ∀ (a1 : Int32) (a2 : Int32) (a3 : Int32) (a4 : Int32) (t0 : Int32) (S : sSt) (H : Heap) (locs : List Loc) (ls : Array Slot) , B_X12_holdsOf_153 kk5 a1 a2 a3 a4 t0 S k → RelM D cy b z tx S s H → va_S (gA b 12 z) s.heap H locs → lv_has ls 9 [(0, .ref (b + adM 0 0)), (1, .int a1), (2, .int a2), (3, .int a3), (4, .int a4)] → W p l e rm_X12_holdsOf s m args below meth c H locs 0 0 (MQ below (PiM D cy b z tx k) args s 0 0 (gA b 12 z)) (F0 m 153 ls [.int t0]) := by
  intro a1 a2 a3 a4 t0 S H locs ls h hR hS hl
  have hx := C0.1
  have hb := C0.2.1
  unfold B_X12_holdsOf_153 at h
  refine lv_istore (lv' := [(8, .int t0), (0, .ref (b + adM 0 0)), (1, .int a1), (2, .int a2), (3, .int a3), (4, .int a4)]) hx hb dX12_holdsOf_153 hl (by decide) rfl (fun ls hl => ?_)
  refine lv_iload_n hx hb dX12_holdsOf_155 rfl (lv_at hl 4 rfl) ?_
  refine lv_iload hx hb dX12_holdsOf_156 (lv_at hl 0 rfl) ?_
  refine lv_if_eq (tgt := 165) hx hb dX12_holdsOf_158 (by decide) (fun c18 => ?_) (fun c18 => ?_)
  · have h := h.1 c18
    refine lv_iconst (v := 0) hx hb dX12_holdsOf_165 (by decide) ?_
    exact Bw_X12_holdsOf_166 C0 hr hlk hT ih5 a1 a2 a4 a3 0 S _ _ _ h hR hS (lv_sub hl [1, 2, 3, 5] rfl)
  · have h := h.2 c18
    refine lv_iconst (v := 1) hx hb dX12_holdsOf_161 (by decide) ?_
    refine lv_goto (tgt := 166) hx hb dX12_holdsOf_162 (by decide) ?_
    exact Bw_X12_holdsOf_166 C0 hr hlk hT ih5 a1 a2 a4 a3 1 S _ _ _ h hR hS (lv_sub hl [1, 2, 3, 5] rfl)
def B_X12_holdsOf_148 (kk5 : Int32 → Int32 → Int32 → Int32 → sSt → Prop) (a1 : Int32) (a2 : Int32) (a3 : Int32) (a4 : Int32) (S : sSt) (k : Int32 → sSt → Prop) : Prop := B_X12_holdsOf_153 kk5 a1 a2 a3 a4 1 S k
set_option maxHeartbeats 4000000 in
set_option maxRecDepth 100000 in
theorem Bw_X12_holdsOf_148 {p : Program} {l : Launch} {e : Env} {s : State} {m : MethodId} {args : Array Value} {below : List Frame} {meth : Method} {c : Code} {D : va_G} {cy : Nat → ClassId} {b z : Nat} {tx : TX} (C0 : CallFix p m c cX12_holdsOf 9 s args TB RX12) (hr : meth.sig.returnType = (some .int)) (hlk : meth.locks = false) (hT : TxR tx s) {k : Int32 → sSt → Prop} {kk5 : Int32 → Int32 → Int32 → Int32 → sSt → Prop} (ih5 : ∀ (a1 : Int32) (a2 : Int32) (a3 : Int32) (a4 : Int32) (S : sSt) (H : Heap) (locs : List Loc) (ls : Array Slot) , kk5 a1 a2 a3 a4 S → RelM D cy b z tx S s H → va_S (gA b 12 z) s.heap H locs → lv_has ls 9 [(0, .ref (b + adM 0 0)), (1, .int a1), (2, .int a2), (3, .int a3), (4, .int a4)] → W p l e rm_X12_holdsOf s m args below meth c H locs 0 0 (MQ below (PiM D cy b z tx k) args s 0 0 (gA b 12 z)) (F0 m 5 ls [])) : ∀ (a1 : Int32) (a2 : Int32) (a3 : Int32) (a4 : Int32) (S : sSt) (H : Heap) (locs : List Loc) (ls : Array Slot) , B_X12_holdsOf_148 kk5 a1 a2 a3 a4 S k → RelM D cy b z tx S s H → va_S (gA b 12 z) s.heap H locs → lv_has ls 9 [(0, .ref (b + adM 0 0)), (1, .int a1), (2, .int a2), (3, .int a3), (4, .int a4)] → W p l e rm_X12_holdsOf s m args below meth c H locs 0 0 (MQ below (PiM D cy b z tx k) args s 0 0 (gA b 12 z)) (F0 m 148 ls []) := by
  intro a1 a2 a3 a4 S H locs ls h hR hS hl
  have hx := C0.1
  have hb := C0.2.1
  unfold B_X12_holdsOf_148 at h
  refine lv_iconst (v := 1) hx hb dX12_holdsOf_148 (by decide) ?_
  refine lv_goto (tgt := 153) hx hb dX12_holdsOf_149 (by decide) ?_
  exact Bw_X12_holdsOf_153 C0 hr hlk hT ih5 a1 a2 a3 a4 1 S _ _ _ h hR hS (lv_sub hl [0, 1, 2, 3, 4] rfl)
def B_X12_holdsOf_152 (kk5 : Int32 → Int32 → Int32 → Int32 → sSt → Prop) (a1 : Int32) (a2 : Int32) (a3 : Int32) (a4 : Int32) (S : sSt) (k : Int32 → sSt → Prop) : Prop := B_X12_holdsOf_153 kk5 a1 a2 a3 a4 0 S k
set_option maxHeartbeats 4000000 in
set_option maxRecDepth 100000 in
theorem Bw_X12_holdsOf_152 {p : Program} {l : Launch} {e : Env} {s : State} {m : MethodId} {args : Array Value} {below : List Frame} {meth : Method} {c : Code} {D : va_G} {cy : Nat → ClassId} {b z : Nat} {tx : TX} (C0 : CallFix p m c cX12_holdsOf 9 s args TB RX12) (hr : meth.sig.returnType = (some .int)) (hlk : meth.locks = false) (hT : TxR tx s) {k : Int32 → sSt → Prop} {kk5 : Int32 → Int32 → Int32 → Int32 → sSt → Prop} (ih5 : ∀ (a1 : Int32) (a2 : Int32) (a3 : Int32) (a4 : Int32) (S : sSt) (H : Heap) (locs : List Loc) (ls : Array Slot) , kk5 a1 a2 a3 a4 S → RelM D cy b z tx S s H → va_S (gA b 12 z) s.heap H locs → lv_has ls 9 [(0, .ref (b + adM 0 0)), (1, .int a1), (2, .int a2), (3, .int a3), (4, .int a4)] → W p l e rm_X12_holdsOf s m args below meth c H locs 0 0 (MQ below (PiM D cy b z tx k) args s 0 0 (gA b 12 z)) (F0 m 5 ls [])) : ∀ (a1 : Int32) (a2 : Int32) (a3 : Int32) (a4 : Int32) (S : sSt) (H : Heap) (locs : List Loc) (ls : Array Slot) , B_X12_holdsOf_152 kk5 a1 a2 a3 a4 S k → RelM D cy b z tx S s H → va_S (gA b 12 z) s.heap H locs → lv_has ls 9 [(0, .ref (b + adM 0 0)), (1, .int a1), (2, .int a2), (3, .int a3), (4, .int a4)] → W p l e rm_X12_holdsOf s m args below meth c H locs 0 0 (MQ below (PiM D cy b z tx k) args s 0 0 (gA b 12 z)) (F0 m 152 ls []) := by
  intro a1 a2 a3 a4 S H locs ls h hR hS hl
  have hx := C0.1
  have hb := C0.2.1
  unfold B_X12_holdsOf_152 at h
  refine lv_iconst (v := 0) hx hb dX12_holdsOf_152 (by decide) ?_
  exact Bw_X12_holdsOf_153 C0 hr hlk hT ih5 a1 a2 a3 a4 0 S _ _ _ h hR hS (lv_sub hl [0, 1, 2, 3, 4] rfl)
def B_X12_holdsOf_109 (kk5 : Int32 → Int32 → Int32 → Int32 → sSt → Prop) (a1 : Int32) (a2 : Int32) (a3 : Int32) (a4 : Int32) (a6 : Int32) (t0 : Int32) (S : sSt) (k : Int32 → sSt → Prop) : Prop := ((a2 = 0 → B_X12_holdsOf_148 kk5 a1 a2 a3 a4 S k) ∧ (¬ a2 = 0 → ((¬ a2 = 1 → ((¬ a2 = 2 → ((a6 = t0 → B_X12_holdsOf_152 kk5 a1 a2 a3 a4 S k) ∧ (¬ a6 = t0 → B_X12_holdsOf_148 kk5 a1 a2 a3 a4 S k))) ∧ (a2 = 2 → ((t0 = 0 → B_X12_holdsOf_152 kk5 a1 a2 a3 a4 S k) ∧ (¬ t0 = 0 → B_X12_holdsOf_148 kk5 a1 a2 a3 a4 S k))))) ∧ (a2 = 1 → ((a6 = 0 → B_X12_holdsOf_152 kk5 a1 a2 a3 a4 S k) ∧ (¬ a6 = 0 → B_X12_holdsOf_148 kk5 a1 a2 a3 a4 S k))))))
set_option maxHeartbeats 4000000 in
set_option maxRecDepth 100000 in
theorem Bw_X12_holdsOf_109 {p : Program} {l : Launch} {e : Env} {s : State} {m : MethodId} {args : Array Value} {below : List Frame} {meth : Method} {c : Code} {D : va_G} {cy : Nat → ClassId} {b z : Nat} {tx : TX} (C0 : CallFix p m c cX12_holdsOf 9 s args TB RX12) (hr : meth.sig.returnType = (some .int)) (hlk : meth.locks = false) (hT : TxR tx s) {k : Int32 → sSt → Prop} {kk5 : Int32 → Int32 → Int32 → Int32 → sSt → Prop} (ih5 : ∀ (a1 : Int32) (a2 : Int32) (a3 : Int32) (a4 : Int32) (S : sSt) (H : Heap) (locs : List Loc) (ls : Array Slot) , kk5 a1 a2 a3 a4 S → RelM D cy b z tx S s H → va_S (gA b 12 z) s.heap H locs → lv_has ls 9 [(0, .ref (b + adM 0 0)), (1, .int a1), (2, .int a2), (3, .int a3), (4, .int a4)] → W p l e rm_X12_holdsOf s m args below meth c H locs 0 0 (MQ below (PiM D cy b z tx k) args s 0 0 (gA b 12 z)) (F0 m 5 ls [])) : ∀ (a1 : Int32) (a2 : Int32) (a3 : Int32) (a4 : Int32) (a6 : Int32) (t0 : Int32) (S : sSt) (H : Heap) (locs : List Loc) (ls : Array Slot) , B_X12_holdsOf_109 kk5 a1 a2 a3 a4 a6 t0 S k → RelM D cy b z tx S s H → va_S (gA b 12 z) s.heap H locs → lv_has ls 9 [(0, .ref (b + adM 0 0)), (1, .int a1), (2, .int a2), (3, .int a3), (4, .int a4), (6, .int a6)] → W p l e rm_X12_holdsOf s m args below meth c H locs 0 0 (MQ below (PiM D cy b z tx k) args s 0 0 (gA b 12 z)) (F0 m 109 ls [.int t0]) := by
  intro a1 a2 a3 a4 a6 t0 S H locs ls h hR hS hl
  have hx := C0.1
  have hb := C0.2.1
  unfold B_X12_holdsOf_109 at h
  refine lv_istore (lv' := [(7, .int t0), (0, .ref (b + adM 0 0)), (1, .int a1), (2, .int a2), (3, .int a3), (4, .int a4), (6, .int a6)]) hx hb dX12_holdsOf_109 hl (by decide) rfl (fun ls hl => ?_)
  refine lv_iload_n hx hb dX12_holdsOf_111 rfl (lv_at hl 3 rfl) ?_
  refine lv_if_eq (tgt := 148) hx hb dX12_holdsOf_112 (by decide) (fun c17 => ?_) (fun c17 => ?_)
  · have h := h.1 c17
    exact Bw_X12_holdsOf_148 C0 hr hlk hT ih5 a1 a2 a3 a4 S _ _ _ h hR hS (lv_sub hl [1, 2, 3, 4, 5] rfl)
  · have h := h.2 c17
    refine lv_iload_n hx hb dX12_holdsOf_115 rfl (lv_at hl 3 rfl) ?_
    refine lv_iconst (v := 1) hx hb dX12_holdsOf_116 (by decide) ?_
    refine lv_icmp_ne (tgt := 128) hx hb dX12_holdsOf_117 (by decide) (fun c20 => ?_) (fun c20 => ?_)
    · have h := h.1 c20
      refine lv_iload_n hx hb dX12_holdsOf_128 rfl (lv_at hl 3 rfl) ?_
      refine lv_iconst (v := 2) hx hb dX12_holdsOf_129 (by decide) ?_
      refine lv_icmp_ne (tgt := 141) hx hb dX12_holdsOf_130 (by decide) (fun c21 => ?_) (fun c21 => ?_)
      · have h := h.1 c21
        refine lv_iload hx hb dX12_holdsOf_141 (lv_at hl 6 rfl) ?_
        refine lv_iload hx hb dX12_holdsOf_143 (lv_at hl 0 rfl) ?_
        refine lv_icmp_eq (tgt := 152) hx hb dX12_holdsOf_145 (by decide) (fun c22 => ?_) (fun c22 => ?_)
        · have h := h.1 c22
          exact Bw_X12_holdsOf_152 C0 hr hlk hT ih5 a1 a2 a3 a4 S _ _ _ h hR hS (lv_sub hl [1, 2, 3, 4, 5] rfl)
        · have h := h.2 c22
          exact Bw_X12_holdsOf_148 C0 hr hlk hT ih5 a1 a2 a3 a4 S _ _ _ h hR hS (lv_sub hl [1, 2, 3, 4, 5] rfl)
      · have h := h.2 c21
        refine lv_iload hx hb dX12_holdsOf_133 (lv_at hl 0 rfl) ?_
        refine lv_if_eq (tgt := 152) hx hb dX12_holdsOf_135 (by decide) (fun c23 => ?_) (fun c23 => ?_)
        · have h := h.1 c23
          exact Bw_X12_holdsOf_152 C0 hr hlk hT ih5 a1 a2 a3 a4 S _ _ _ h hR hS (lv_sub hl [1, 2, 3, 4, 5] rfl)
        · have h := h.2 c23
          refine lv_goto (tgt := 148) hx hb dX12_holdsOf_138 (by decide) ?_
          exact Bw_X12_holdsOf_148 C0 hr hlk hT ih5 a1 a2 a3 a4 S _ _ _ h hR hS (lv_sub hl [1, 2, 3, 4, 5] rfl)
    · have h := h.2 c20
      refine lv_iload hx hb dX12_holdsOf_120 (lv_at hl 6 rfl) ?_
      refine lv_if_eq (tgt := 152) hx hb dX12_holdsOf_122 (by decide) (fun c24 => ?_) (fun c24 => ?_)
      · have h := h.1 c24
        exact Bw_X12_holdsOf_152 C0 hr hlk hT ih5 a1 a2 a3 a4 S _ _ _ h hR hS (lv_sub hl [1, 2, 3, 4, 5] rfl)
      · have h := h.2 c24
        refine lv_goto (tgt := 148) hx hb dX12_holdsOf_125 (by decide) ?_
        exact Bw_X12_holdsOf_148 C0 hr hlk hT ih5 a1 a2 a3 a4 S _ _ _ h hR hS (lv_sub hl [1, 2, 3, 4, 5] rfl)
def B_X12_holdsOf_72 (kk5 : Int32 → Int32 → Int32 → Int32 → sSt → Prop) (a1 : Int32) (a2 : Int32) (a3 : Int32) (a4 : Int32) (a5 : Int32) (t0 : Int32) (S : sSt) (k : Int32 → sSt → Prop) : Prop := ix (a5 + 10) 10421 (fun j12 => F_X12_sessionAt a1 0 S (fun r13 S14 => ix r13 10421 (fun j15 => ((((S.1 1 0 3) + (S14.1 1 0 j15)) ≤ (S.1 1 0 j12) → B_X12_holdsOf_109 kk5 a1 a2 a3 a4 t0 0 S14 k) ∧ (¬ ((S.1 1 0 3) + (S14.1 1 0 j15)) ≤ (S.1 1 0 j12) → B_X12_holdsOf_109 kk5 a1 a2 a3 a4 t0 1 S14 k)))))
set_option maxHeartbeats 4000000 in
set_option maxRecDepth 100000 in
theorem Bw_X12_holdsOf_72 {p : Program} {l : Launch} {e : Env} {s : State} {m : MethodId} {args : Array Value} {below : List Frame} {meth : Method} {c : Code} {D : va_G} {cy : Nat → ClassId} {b z : Nat} {tx : TX} (C0 : CallFix p m c cX12_holdsOf 9 s args TB RX12) (hr : meth.sig.returnType = (some .int)) (hlk : meth.locks = false) (hT : TxR tx s) {k : Int32 → sSt → Prop} {kk5 : Int32 → Int32 → Int32 → Int32 → sSt → Prop} (ih5 : ∀ (a1 : Int32) (a2 : Int32) (a3 : Int32) (a4 : Int32) (S : sSt) (H : Heap) (locs : List Loc) (ls : Array Slot) , kk5 a1 a2 a3 a4 S → RelM D cy b z tx S s H → va_S (gA b 12 z) s.heap H locs → lv_has ls 9 [(0, .ref (b + adM 0 0)), (1, .int a1), (2, .int a2), (3, .int a3), (4, .int a4)] → W p l e rm_X12_holdsOf s m args below meth c H locs 0 0 (MQ below (PiM D cy b z tx k) args s 0 0 (gA b 12 z)) (F0 m 5 ls [])) : ∀ (a1 : Int32) (a2 : Int32) (a3 : Int32) (a4 : Int32) (a5 : Int32) (t0 : Int32) (S : sSt) (H : Heap) (locs : List Loc) (ls : Array Slot) , B_X12_holdsOf_72 kk5 a1 a2 a3 a4 a5 t0 S k → RelM D cy b z tx S s H → va_S (gA b 12 z) s.heap H locs → lv_has ls 9 [(0, .ref (b + adM 0 0)), (1, .int a1), (2, .int a2), (3, .int a3), (4, .int a4), (5, .int a5)] → W p l e rm_X12_holdsOf s m args below meth c H locs 0 0 (MQ below (PiM D cy b z tx k) args s 0 0 (gA b 12 z)) (F0 m 72 ls [.int t0]) := by
  intro a1 a2 a3 a4 a5 t0 S H locs ls h hR hS hl
  have hx := C0.1
  have hb := C0.2.1
  unfold B_X12_holdsOf_72 at h
  refine lv_istore (lv' := [(6, .int t0), (0, .ref (b + adM 0 0)), (1, .int a1), (2, .int a2), (3, .int a3), (4, .int a4), (5, .int a5)]) hx hb dX12_holdsOf_72 hl (by decide) rfl (fun ls hl => ?_)
  refine lv_aload_n hx hb dX12_holdsOf_74 rfl (lv_at hl 1 rfl) ?_
  refine gM_0_2 C0 hR Nat.zero_lt_one tbs_wsX120 mM8_7_79 dX12_holdsOf_75 ?_
  refine lv_iload hx hb dX12_holdsOf_78 (lv_at hl 6 rfl) ?_
  refine lv_bipush (v := 10) hx hb dX12_holdsOf_80 (by decide) ?_
  refine lv_iadd hx hb dX12_holdsOf_82 ?_
  obtain ⟨j12, hj12, ej12, h⟩ := h
  refine lM_1 C0 hR Nat.zero_lt_one hj12 ej12 dX12_holdsOf_83 ?_
  refine lv_aload_n hx hb dX12_holdsOf_84 rfl (lv_at hl 1 rfl) ?_
  refine gM_0_2 C0 hR Nat.zero_lt_one tbs_wsX120 mM8_7_79 dX12_holdsOf_85 ?_
  refine lv_iconst (v := 3) hx hb dX12_holdsOf_88 (by decide) ?_
  refine lM_1 C0 hR Nat.zero_lt_one (by decide) rfl dX12_holdsOf_89 ?_
  refine lv_aload_n hx hb dX12_holdsOf_90 rfl (lv_at hl 1 rfl) ?_
  refine gM_0_2 C0 hR Nat.zero_lt_one tbs_wsX120 mM8_7_79 dX12_holdsOf_91 ?_
  refine lv_iload_n hx hb dX12_holdsOf_94 rfl (lv_at hl 2 rfl) ?_
  refine lv_iconst (v := 0) hx hb dX12_holdsOf_95 (by decide) ?_
  refine qM_Si (As := [.int a1, .int 0]) (rest := [.ref (b + adM 1 0), .int (S.1 1 0 3), .int (S.1 1 0 j12)]) C0 (c_X12_sessionAt l h) (va_cwS 2 C0.2.2.2.2 (tbS mM8_7_233 ⟨mM8_7_234, mM8_1_11, mM8_7_235⟩) rfl rfl rfl (by decide +kernel) ⟨Nat.le_of_ble_eq_true rfl, Nat.le_of_ble_eq_true rfl⟩) hR hT hS rfl hl.1 rfl (Nat.le_of_ble_eq_true rfl) dX12_holdsOf_96 ⟨Nat.zero_le _, Nat.zero_le _⟩ (fun r13 S14 H locs h hR hS => ?_)
  obtain ⟨j15, hj15, ej15, h⟩ := h
  refine lM_1 C0 hR Nat.zero_lt_one hj15 ej15 dX12_holdsOf_99 ?_
  refine lv_iadd hx hb dX12_holdsOf_100 ?_
  refine lv_icmp_ge (tgt := 108) hx hb dX12_holdsOf_101 (by decide) (fun c16 => ?_) (fun c16 => ?_)
  · have h := h.1 c16
    refine lv_iconst (v := 0) hx hb dX12_holdsOf_108 (by decide) ?_
    exact Bw_X12_holdsOf_109 C0 hr hlk hT ih5 a1 a2 a3 a4 t0 0 S14 _ _ _ h hR hS (lv_sub hl [1, 2, 3, 4, 5, 0] rfl)
  · have h := h.2 c16
    refine lv_iconst (v := 1) hx hb dX12_holdsOf_104 (by decide) ?_
    refine lv_goto (tgt := 109) hx hb dX12_holdsOf_105 (by decide) ?_
    exact Bw_X12_holdsOf_109 C0 hr hlk hT ih5 a1 a2 a3 a4 t0 1 S14 _ _ _ h hR hS (lv_sub hl [1, 2, 3, 4, 5, 0] rfl)
def Bb_X12_holdsOf_5 (kk5 : Int32 → Int32 → Int32 → Int32 → sSt → Prop) (a1 : Int32) (a2 : Int32) (a3 : Int32) (a4 : Int32) (S : sSt) (k : Int32 → sSt → Prop) : Prop := ((24 ≤ a4 → k a3 S) ∧ (¬ 24 ≤ a4 → F_X12_seen a4 a1 S (fun r2 S3 => F_X12_isState r2 1 S3 (fun r4 S5 => ((r4 = 0 → B_X12_holdsOf_168 kk5 a1 a2 a3 a4 S5 k) ∧ (¬ r4 = 0 → ix (r2 + 9) 10421 (fun j8 => (((S5.1 1 0 j8) = a1 → ix (r2 + 10) 10421 (fun j10 => (((S5.1 1 0 3) ≤ (S5.1 1 0 j10) → B_X12_holdsOf_72 kk5 a1 a2 a3 a4 r2 0 S5 k) ∧ (¬ (S5.1 1 0 3) ≤ (S5.1 1 0 j10) → B_X12_holdsOf_72 kk5 a1 a2 a3 a4 r2 1 S5 k)))) ∧ (¬ (S5.1 1 0 j8) = a1 → B_X12_holdsOf_168 kk5 a1 a2 a3 a4 S5 k)))))))))
set_option maxHeartbeats 4000000 in
set_option maxRecDepth 100000 in
theorem Bbw_X12_holdsOf_5 {p : Program} {l : Launch} {e : Env} {s : State} {m : MethodId} {args : Array Value} {below : List Frame} {meth : Method} {c : Code} {D : va_G} {cy : Nat → ClassId} {b z : Nat} {tx : TX} (C0 : CallFix p m c cX12_holdsOf 9 s args TB RX12) (hr : meth.sig.returnType = (some .int)) (hlk : meth.locks = false) (hT : TxR tx s) {k : Int32 → sSt → Prop} {kk5 : Int32 → Int32 → Int32 → Int32 → sSt → Prop} (ih5 : ∀ (a1 : Int32) (a2 : Int32) (a3 : Int32) (a4 : Int32) (S : sSt) (H : Heap) (locs : List Loc) (ls : Array Slot) , kk5 a1 a2 a3 a4 S → RelM D cy b z tx S s H → va_S (gA b 12 z) s.heap H locs → lv_has ls 9 [(0, .ref (b + adM 0 0)), (1, .int a1), (2, .int a2), (3, .int a3), (4, .int a4)] → W p l e rm_X12_holdsOf s m args below meth c H locs 0 0 (MQ below (PiM D cy b z tx k) args s 0 0 (gA b 12 z)) (F0 m 5 ls [])) : ∀ (a1 : Int32) (a2 : Int32) (a3 : Int32) (a4 : Int32) (S : sSt) (H : Heap) (locs : List Loc) (ls : Array Slot) , Bb_X12_holdsOf_5 kk5 a1 a2 a3 a4 S k → RelM D cy b z tx S s H → va_S (gA b 12 z) s.heap H locs → lv_has ls 9 [(0, .ref (b + adM 0 0)), (1, .int a1), (2, .int a2), (3, .int a3), (4, .int a4)] → W p l e rm_X12_holdsOf s m args below meth c H locs 0 0 (MQ below (PiM D cy b z tx k) args s 0 0 (gA b 12 z)) (F0 m 5 ls []) := by
  intro a1 a2 a3 a4 S H locs ls h hR hS hl
  have hx := C0.1
  have hb := C0.2.1
  unfold Bb_X12_holdsOf_5 at h
  refine lv_iload hx hb dX12_holdsOf_5 (lv_at hl 4 rfl) ?_
  refine lv_bipush (v := 24) hx hb dX12_holdsOf_7 (by decide) ?_
  refine lv_icmp_ge (tgt := 174) hx hb dX12_holdsOf_9 (by decide) (fun c1 => ?_) (fun c1 => ?_)
  · have h := h.1 c1
    refine lv_iload_n hx hb dX12_holdsOf_174 rfl (lv_at hl 3 rfl) ?_
    exact rtM_i C0 hr hlk hR hS h dX12_holdsOf_175
  · have h := h.2 c1
    refine lv_aload_n hx hb dX12_holdsOf_12 rfl (lv_at hl 0 rfl) ?_
    refine lv_iload hx hb dX12_holdsOf_13 (lv_at hl 4 rfl) ?_
    refine lv_iload_n hx hb dX12_holdsOf_15 rfl (lv_at hl 1 rfl) ?_
    refine qM_Vi (As := [.int a4, .int a1]) (rest := []) C0 (c_X12_seen l h) (cwV 2 C0.2.2.2.2 (tbV mM8_8_167 ⟨mM8_8_169, mpM8_5_5, mM8_1_11, mM8_8_170⟩) rfl rfl rfl (by decide +kernel) ⟨Nat.le_of_ble_eq_true rfl, Nat.le_of_ble_eq_true rfl⟩) (rcM_0 hR Nat.zero_lt_one) hR hT hS rfl hl.1 rfl (Nat.le_of_ble_eq_true rfl) dX12_holdsOf_16 ⟨Nat.zero_le _, Nat.zero_le _⟩ (fun r2 S3 H locs h hR hS => ?_)
    refine lv_istore (lv' := [(5, .int r2), (0, .ref (b + adM 0 0)), (1, .int a1), (2, .int a2), (3, .int a3), (4, .int a4)]) hx hb dX12_holdsOf_19 hl (by decide) rfl (fun ls hl => ?_)
    refine lv_aload_n hx hb dX12_holdsOf_21 rfl (lv_at hl 1 rfl) ?_
    refine lv_iload hx hb dX12_holdsOf_22 (lv_at hl 0 rfl) ?_
    refine lv_iconst (v := 1) hx hb dX12_holdsOf_24 (by decide) ?_
    refine qM_Vi (As := [.int r2, .int 1]) (rest := []) C0 (c_X12_isState l h) (cwV 2 C0.2.2.2.2 (tbV mM8_8_171 ⟨mM8_8_173, mpM8_5_6, mM8_1_11, mM8_8_174⟩) rfl rfl rfl (by decide +kernel) ⟨Nat.le_of_ble_eq_true rfl, Nat.le_of_ble_eq_true rfl⟩) (rcM_0 hR Nat.zero_lt_one) hR hT hS rfl hl.1 rfl (Nat.le_of_ble_eq_true rfl) dX12_holdsOf_25 ⟨Nat.zero_le _, Nat.zero_le _⟩ (fun r4 S5 H locs h hR hS => ?_)
    refine lv_if_eq (tgt := 168) hx hb dX12_holdsOf_28 (by decide) (fun c6 => ?_) (fun c6 => ?_)
    · have h := h.1 c6
      exact Bw_X12_holdsOf_168 C0 hr hlk hT ih5 a1 a2 a3 a4 S5 _ _ _ h hR hS (lv_sub hl [1, 2, 3, 4, 5] rfl)
    · have h := h.2 c6
      refine lv_aload_n hx hb dX12_holdsOf_31 rfl (lv_at hl 1 rfl) ?_
      refine gM_0_2 C0 hR Nat.zero_lt_one tbs_wsX120 mM8_7_79 dX12_holdsOf_32 ?_
      refine lv_iload hx hb dX12_holdsOf_35 (lv_at hl 0 rfl) ?_
      refine lv_bipush (v := 9) hx hb dX12_holdsOf_37 (by decide) ?_
      refine lv_iadd hx hb dX12_holdsOf_39 ?_
      obtain ⟨j8, hj8, ej8, h⟩ := h
      refine lM_1 C0 hR Nat.zero_lt_one hj8 ej8 dX12_holdsOf_40 ?_
      refine lv_iload_n hx hb dX12_holdsOf_41 rfl (lv_at hl 2 rfl) ?_
      refine lv_icmp_eq (tgt := 48) hx hb dX12_holdsOf_42 (by decide) (fun c9 => ?_) (fun c9 => ?_)
      · have h := h.1 c9
        refine lv_aload_n hx hb dX12_holdsOf_48 rfl (lv_at hl 1 rfl) ?_
        refine gM_0_2 C0 hR Nat.zero_lt_one tbs_wsX120 mM8_7_79 dX12_holdsOf_49 ?_
        refine lv_iload hx hb dX12_holdsOf_52 (lv_at hl 0 rfl) ?_
        refine lv_bipush (v := 10) hx hb dX12_holdsOf_54 (by decide) ?_
        refine lv_iadd hx hb dX12_holdsOf_56 ?_
        obtain ⟨j10, hj10, ej10, h⟩ := h
        refine lM_1 C0 hR Nat.zero_lt_one hj10 ej10 dX12_holdsOf_57 ?_
        refine lv_aload_n hx hb dX12_holdsOf_58 rfl (lv_at hl 1 rfl) ?_
        refine gM_0_2 C0 hR Nat.zero_lt_one tbs_wsX120 mM8_7_79 dX12_holdsOf_59 ?_
        refine lv_iconst (v := 3) hx hb dX12_holdsOf_62 (by decide) ?_
        refine lM_1 C0 hR Nat.zero_lt_one (by decide) rfl dX12_holdsOf_63 ?_
        refine lv_icmp_ge (tgt := 71) hx hb dX12_holdsOf_64 (by decide) (fun c11 => ?_) (fun c11 => ?_)
        · have h := h.1 c11
          refine lv_iconst (v := 0) hx hb dX12_holdsOf_71 (by decide) ?_
          exact Bw_X12_holdsOf_72 C0 hr hlk hT ih5 a1 a2 a3 a4 r2 0 S5 _ _ _ h hR hS (lv_sub hl [1, 2, 3, 4, 5, 0] rfl)
        · have h := h.2 c11
          refine lv_iconst (v := 1) hx hb dX12_holdsOf_67 (by decide) ?_
          refine lv_goto (tgt := 72) hx hb dX12_holdsOf_68 (by decide) ?_
          exact Bw_X12_holdsOf_72 C0 hr hlk hT ih5 a1 a2 a3 a4 r2 1 S5 _ _ _ h hR hS (lv_sub hl [1, 2, 3, 4, 5, 0] rfl)
      · have h := h.2 c9
        refine lv_goto (tgt := 168) hx hb dX12_holdsOf_45 (by decide) ?_
        exact Bw_X12_holdsOf_168 C0 hr hlk hT ih5 a1 a2 a3 a4 S5 _ _ _ h hR hS (lv_sub hl [1, 2, 3, 4, 5] rfl)
def B_X12_holdsOf_5 (n9 : Nat) (a1 : Int32) (a2 : Int32) (a3 : Int32) (a4 : Int32) (S : sSt) (k : Int32 → sSt → Prop) : Prop := (Nat.rec (motive := fun _ => Int32 → Int32 → Int32 → Int32 → sSt → Prop) (fun _ _ _ _ _ => False) (fun _ r9 => fun a1 a2 a3 a4 S => Bb_X12_holdsOf_5 r9 a1 a2 a3 a4 S k) n9 : Int32 → Int32 → Int32 → Int32 → sSt → Prop) a1 a2 a3 a4 S
theorem B_X12_holdsOf_5_s (n9 : Nat) (a1 : Int32) (a2 : Int32) (a3 : Int32) (a4 : Int32) (S : sSt) (k : Int32 → sSt → Prop) : B_X12_holdsOf_5 (n9 + 1) a1 a2 a3 a4 S k = Bb_X12_holdsOf_5 (fun a1 a2 a3 a4 S => B_X12_holdsOf_5 n9 a1 a2 a3 a4 S k) a1 a2 a3 a4 S k := rfl
set_option maxHeartbeats 4000000 in
set_option maxRecDepth 100000 in
theorem Bw_X12_holdsOf_5 {p : Program} {l : Launch} {e : Env} {s : State} {m : MethodId} {args : Array Value} {below : List Frame} {meth : Method} {c : Code} {D : va_G} {cy : Nat → ClassId} {b z : Nat} {tx : TX} (C0 : CallFix p m c cX12_holdsOf 9 s args TB RX12) (hr : meth.sig.returnType = (some .int)) (hlk : meth.locks = false) (hT : TxR tx s) {k : Int32 → sSt → Prop} : ∀ (n9 : Nat), ∀ (a1 : Int32) (a2 : Int32) (a3 : Int32) (a4 : Int32) (S : sSt) (H : Heap) (locs : List Loc) (ls : Array Slot) , B_X12_holdsOf_5 n9 a1 a2 a3 a4 S k → RelM D cy b z tx S s H → va_S (gA b 12 z) s.heap H locs → lv_has ls 9 [(0, .ref (b + adM 0 0)), (1, .int a1), (2, .int a2), (3, .int a3), (4, .int a4)] → W p l e rm_X12_holdsOf s m args below meth c H locs 0 0 (MQ below (PiM D cy b z tx k) args s 0 0 (gA b 12 z)) (F0 m 5 ls []) := by
  intro n9
  induction n9 with
  | zero => intro a1 a2 a3 a4 S H locs ls h; exact h.elim
  | succ n9 ih =>
    intro a1 a2 a3 a4 S H locs ls h hR hS hl
    exact Bbw_X12_holdsOf_5 C0 hr hlk hT ih a1 a2 a3 a4 S H locs ls h hR hS hl
def F_X12_holdsOf (a1 : Int32) (a2 : Int32) (S : sSt) (k : Int32 → sSt → Prop) : Prop := B_X12_holdsOf_5 fuel a1 a2 0 0 S k
set_option maxHeartbeats 4000000 in
set_option maxRecDepth 100000 in
theorem c_X12_holdsOf (l : Launch) {D : va_G} {cy : Nat → ClassId} {b z : Nat} {tx : TX} {a1 : Int32} {a2 : Int32} {S : sSt} {k : Int32 → sSt → Prop} (h : F_X12_holdsOf a1 a2 S k) : Met l yX12_holdsOf (Cond.code yX12_holdsOf cX12_holdsOf 9 (some .int) :: TB) rm_X12_holdsOf (va_Pc [.ref (b + adM 0 0), .int a1, .int a2] (fun U => RelM D cy b z tx S U U.heap ∧ TxR tx U)) (PiM D cy b z tx k) 0 0 (gA b 12 z) := by
  refine Met.ofW (cc := cX12_holdsOf) (maxL := 9) (ret := (some .int)) (by decide) rfl ?_
  intro p e s m args below meth c s₁ B hml hv
  obtain ⟨rfl, hR, hT⟩ := hv
  have C0 : CallFix p m c cX12_holdsOf 9 s _ TB RX12 := ⟨B.exec, B.bytes, hml, findClass_of_methodNamed B.named, fun w hw => atoms_spec B.pre w (List.mem_cons_of_mem _ hw)⟩
  have hr := B.returns
  have hlk := B.notSynchronized
  have hx := C0.1
  have hb := C0.2.1
  have hS : va_S (gA b 12 z) s.heap s.heap [] := va_S.rf
  have hl := lv_entry ([.ref (b + adM 0 0), .int a1, .int a2]) (n := 9) (Nat.le_of_ble_eq_true rfl)
  rw [lg_entry_eq]
  generalize (lg_sl ([.ref (b + adM 0 0), .int a1, .int a2]) ++ List.replicate (9 - (lg_sl ([.ref (b + adM 0 0), .int a1, .int a2])).length) Slot.unset).toArray = ls at hl ⊢
  have hl : lv_has ls 9 [(0, .ref (b + adM 0 0)), (1, .int a1), (2, .int a2)] := hl
  show W p l e rm_X12_holdsOf s m _ below meth c s.heap [] 0 0 (MQ below (PiM D cy b z tx k) _ s 0 0 (gA b 12 z)) _
  unfold F_X12_holdsOf at h
  refine lv_iconst (v := 0) hx hb dX12_holdsOf_0 (by decide) ?_
  refine lv_istore_n (lv' := [(3, .int 0), (0, .ref (b + adM 0 0)), (1, .int a1), (2, .int a2)]) hx hb dX12_holdsOf_1 rfl hl (by decide) rfl (fun ls hl => ?_)
  refine lv_iconst (v := 0) hx hb dX12_holdsOf_2 (by decide) ?_
  refine lv_istore (lv' := [(4, .int 0), (3, .int 0), (0, .ref (b + adM 0 0)), (1, .int a1), (2, .int a2)]) hx hb dX12_holdsOf_3 hl (by decide) rfl (fun ls hl => ?_)
  exact Bw_X12_holdsOf_5 C0 hr hlk hT fuel a1 a2 0 0 S _ _ _ h hR hS (lv_sub hl [2, 3, 4, 1, 0] rfl)

def rm_X12_session : Room := { frames := 5, cells := 0, slots := 0, locals := 113 }
def B_X12_session_34 (a1 : Int32) (a2 : Int32) (t1 : Int32) (S : sSt) (k : Int32 → sSt → Prop) : Prop := F_X12_throwsIf t1 2 S (fun r10 S11 => ((r10 = 0 → ((a2 = 0 → F_X12_sessionAt a1 2 S11 (fun r14 S15 => ix r14 10421 (fun j16 => k (S15.1 1 0 j16) S15))) ∧ (¬ a2 = 0 → ((a2 = 1 → F_X12_sessionAt a1 3 S11 (fun r18 S19 => ix r18 10421 (fun j20 => k (S19.1 1 0 j20) S19))) ∧ (¬ a2 = 1 → ((a2 = 2 → F_X12_lockedBy a1 S11 (fun r22 S23 => k r22 S23)) ∧ (¬ a2 = 2 → ((a2 = 3 → F_X12_sessionAt a1 0 S11 (fun r25 S26 => ix r25 10421 (fun j27 => k (S26.1 1 0 j27) S26))) ∧ (¬ a2 = 3 → ((a2 = 4 → F_X12_sessionAt a1 1 S11 (fun r29 S30 => ix r29 10421 (fun j31 => k (S30.1 1 0 j31) S30))) ∧ (¬ a2 = 4 → ((a2 = 5 → F_X12_sessionAt a1 4 S11 (fun r33 S34 => ix r33 10421 (fun j35 => k (S34.1 1 0 j35) S34))) ∧ (¬ a2 = 5 → F_X12_holdsOf a1 (a2 - 6) S11 (fun r36 S37 => k r36 S37)))))))))))))) ∧ (¬ r10 = 0 → k 0 S11)))
set_option maxHeartbeats 4000000 in
set_option maxRecDepth 100000 in
theorem Bw_X12_session_34 {p : Program} {l : Launch} {e : Env} {s : State} {m : MethodId} {args : Array Value} {below : List Frame} {meth : Method} {c : Code} {D : va_G} {cy : Nat → ClassId} {b z : Nat} {tx : TX} (C0 : CallFix p m c cX12_session 3 s args TB RX12) (hr : meth.sig.returnType = (some .int)) (hlk : meth.locks = false) (hT : TxR tx s) {k : Int32 → sSt → Prop} : ∀ (a1 : Int32) (a2 : Int32) (t1 : Int32) (S : sSt) (H : Heap) (locs : List Loc) (ls : Array Slot) , B_X12_session_34 a1 a2 t1 S k → RelM D cy b z tx S s H → va_S (gA b 12 z) s.heap H locs → lv_has ls 3 [(0, .ref (b + adM 0 0)), (1, .int a1), (2, .int a2)] → W p l e rm_X12_session s m args below meth c H locs 0 0 (MQ below (PiM D cy b z tx k) args s 0 0 (gA b 12 z)) (F0 m 34 ls [.int t1, .ref (b + adM 0 0)]) := by
  intro a1 a2 t1 S H locs ls h hR hS hl
  have hx := C0.1
  have hb := C0.2.1
  unfold B_X12_session_34 at h
  refine lv_iconst (v := 2) hx hb dX12_session_34 (by decide) ?_
  refine qM_Vi (As := [.int t1, .int 2]) (rest := []) C0 (c_X12_throwsIf l h) (cwV 2 C0.2.2.2.2 (tbV mM8_8_25 ⟨mM8_8_27, mpM8_3_13, mM8_1_11, mM8_8_28⟩) rfl rfl rfl (by decide +kernel) ⟨Nat.le_of_ble_eq_true rfl, Nat.le_of_ble_eq_true rfl⟩) (rcM_0 hR Nat.zero_lt_one) hR hT hS rfl hl.1 rfl (Nat.le_of_ble_eq_true rfl) dX12_session_35 ⟨Nat.zero_le _, Nat.zero_le _⟩ (fun r10 S11 H locs h hR hS => ?_)
  refine lv_if_eq (tgt := 43) hx hb dX12_session_38 (by decide) (fun c12 => ?_) (fun c12 => ?_)
  · have h := h.1 c12
    refine lv_iload_n hx hb dX12_session_43 rfl (lv_at hl 2 rfl) ?_
    by_cases c13 : a2 = 0
    · have h := h.1 c13
      refine lv_tableIn (tgt := 84) hx hb dX12_session_44 (by rw [c13]; decide) (by rw [c13]; decide) (by rw [c13]; rfl) (by decide) ?_
      refine lv_aload_n hx hb dX12_session_84 rfl (lv_at hl 0 rfl) ?_
      refine gM_0_2 C0 hR Nat.zero_lt_one tbs_wsX120 mM8_7_79 dX12_session_85 ?_
      refine lv_iload_n hx hb dX12_session_88 rfl (lv_at hl 1 rfl) ?_
      refine lv_iconst (v := 2) hx hb dX12_session_89 (by decide) ?_
      refine qM_Si (As := [.int a1, .int 2]) (rest := [.ref (b + adM 1 0)]) C0 (c_X12_sessionAt l h) (va_cwS 2 C0.2.2.2.2 (tbS mM8_7_233 ⟨mM8_7_234, mM8_1_11, mM8_7_235⟩) rfl rfl rfl (by decide +kernel) ⟨Nat.le_of_ble_eq_true rfl, Nat.le_of_ble_eq_true rfl⟩) hR hT hS rfl hl.1 rfl (Nat.le_of_ble_eq_true rfl) dX12_session_90 ⟨Nat.zero_le _, Nat.zero_le _⟩ (fun r14 S15 H locs h hR hS => ?_)
      obtain ⟨j16, hj16, ej16, h⟩ := h
      refine lM_1 C0 hR Nat.zero_lt_one hj16 ej16 dX12_session_93 ?_
      exact rtM_i C0 hr hlk hR hS h dX12_session_94
    have h := h.2 c13
    by_cases c17 : a2 = 1
    · have h := h.1 c17
      refine lv_tableIn (tgt := 95) hx hb dX12_session_44 (by rw [c17]; decide) (by rw [c17]; decide) (by rw [c17]; rfl) (by decide) ?_
      refine lv_aload_n hx hb dX12_session_95 rfl (lv_at hl 0 rfl) ?_
      refine gM_0_2 C0 hR Nat.zero_lt_one tbs_wsX120 mM8_7_79 dX12_session_96 ?_
      refine lv_iload_n hx hb dX12_session_99 rfl (lv_at hl 1 rfl) ?_
      refine lv_iconst (v := 3) hx hb dX12_session_100 (by decide) ?_
      refine qM_Si (As := [.int a1, .int 3]) (rest := [.ref (b + adM 1 0)]) C0 (c_X12_sessionAt l h) (va_cwS 2 C0.2.2.2.2 (tbS mM8_7_233 ⟨mM8_7_234, mM8_1_11, mM8_7_235⟩) rfl rfl rfl (by decide +kernel) ⟨Nat.le_of_ble_eq_true rfl, Nat.le_of_ble_eq_true rfl⟩) hR hT hS rfl hl.1 rfl (Nat.le_of_ble_eq_true rfl) dX12_session_101 ⟨Nat.zero_le _, Nat.zero_le _⟩ (fun r18 S19 H locs h hR hS => ?_)
      obtain ⟨j20, hj20, ej20, h⟩ := h
      refine lM_1 C0 hR Nat.zero_lt_one hj20 ej20 dX12_session_104 ?_
      exact rtM_i C0 hr hlk hR hS h dX12_session_105
    have h := h.2 c17
    by_cases c21 : a2 = 2
    · have h := h.1 c21
      refine lv_tableIn (tgt := 106) hx hb dX12_session_44 (by rw [c21]; decide) (by rw [c21]; decide) (by rw [c21]; rfl) (by decide) ?_
      refine lv_aload_n hx hb dX12_session_106 rfl (lv_at hl 0 rfl) ?_
      refine lv_iload_n hx hb dX12_session_107 rfl (lv_at hl 1 rfl) ?_
      refine qM_Vi (As := [.int a1]) (rest := []) C0 (c_X12_lockedBy l h) (cwV 1 C0.2.2.2.2 (tbV mM8_8_147 ⟨mM8_8_149, mpM8_5_1, mM8_1_11, mM8_8_150⟩) rfl rfl rfl (by decide +kernel) ⟨Nat.le_of_ble_eq_true rfl, Nat.le_of_ble_eq_true rfl⟩) (rcM_0 hR Nat.zero_lt_one) hR hT hS rfl hl.1 rfl (Nat.le_of_ble_eq_true rfl) dX12_session_108 ⟨Nat.zero_le _, Nat.zero_le _⟩ (fun r22 S23 H locs h hR hS => ?_)
      exact rtM_i C0 hr hlk hR hS h dX12_session_111
    have h := h.2 c21
    by_cases c24 : a2 = 3
    · have h := h.1 c24
      refine lv_tableIn (tgt := 112) hx hb dX12_session_44 (by rw [c24]; decide) (by rw [c24]; decide) (by rw [c24]; rfl) (by decide) ?_
      refine lv_aload_n hx hb dX12_session_112 rfl (lv_at hl 0 rfl) ?_
      refine gM_0_2 C0 hR Nat.zero_lt_one tbs_wsX120 mM8_7_79 dX12_session_113 ?_
      refine lv_iload_n hx hb dX12_session_116 rfl (lv_at hl 1 rfl) ?_
      refine lv_iconst (v := 0) hx hb dX12_session_117 (by decide) ?_
      refine qM_Si (As := [.int a1, .int 0]) (rest := [.ref (b + adM 1 0)]) C0 (c_X12_sessionAt l h) (va_cwS 2 C0.2.2.2.2 (tbS mM8_7_233 ⟨mM8_7_234, mM8_1_11, mM8_7_235⟩) rfl rfl rfl (by decide +kernel) ⟨Nat.le_of_ble_eq_true rfl, Nat.le_of_ble_eq_true rfl⟩) hR hT hS rfl hl.1 rfl (Nat.le_of_ble_eq_true rfl) dX12_session_118 ⟨Nat.zero_le _, Nat.zero_le _⟩ (fun r25 S26 H locs h hR hS => ?_)
      obtain ⟨j27, hj27, ej27, h⟩ := h
      refine lM_1 C0 hR Nat.zero_lt_one hj27 ej27 dX12_session_121 ?_
      exact rtM_i C0 hr hlk hR hS h dX12_session_122
    have h := h.2 c24
    by_cases c28 : a2 = 4
    · have h := h.1 c28
      refine lv_tableIn (tgt := 123) hx hb dX12_session_44 (by rw [c28]; decide) (by rw [c28]; decide) (by rw [c28]; rfl) (by decide) ?_
      refine lv_aload_n hx hb dX12_session_123 rfl (lv_at hl 0 rfl) ?_
      refine gM_0_2 C0 hR Nat.zero_lt_one tbs_wsX120 mM8_7_79 dX12_session_124 ?_
      refine lv_iload_n hx hb dX12_session_127 rfl (lv_at hl 1 rfl) ?_
      refine lv_iconst (v := 1) hx hb dX12_session_128 (by decide) ?_
      refine qM_Si (As := [.int a1, .int 1]) (rest := [.ref (b + adM 1 0)]) C0 (c_X12_sessionAt l h) (va_cwS 2 C0.2.2.2.2 (tbS mM8_7_233 ⟨mM8_7_234, mM8_1_11, mM8_7_235⟩) rfl rfl rfl (by decide +kernel) ⟨Nat.le_of_ble_eq_true rfl, Nat.le_of_ble_eq_true rfl⟩) hR hT hS rfl hl.1 rfl (Nat.le_of_ble_eq_true rfl) dX12_session_129 ⟨Nat.zero_le _, Nat.zero_le _⟩ (fun r29 S30 H locs h hR hS => ?_)
      obtain ⟨j31, hj31, ej31, h⟩ := h
      refine lM_1 C0 hR Nat.zero_lt_one hj31 ej31 dX12_session_132 ?_
      exact rtM_i C0 hr hlk hR hS h dX12_session_133
    have h := h.2 c28
    by_cases c32 : a2 = 5
    · have h := h.1 c32
      refine lv_tableIn (tgt := 134) hx hb dX12_session_44 (by rw [c32]; decide) (by rw [c32]; decide) (by rw [c32]; rfl) (by decide) ?_
      refine lv_aload_n hx hb dX12_session_134 rfl (lv_at hl 0 rfl) ?_
      refine gM_0_2 C0 hR Nat.zero_lt_one tbs_wsX120 mM8_7_79 dX12_session_135 ?_
      refine lv_iload_n hx hb dX12_session_138 rfl (lv_at hl 1 rfl) ?_
      refine lv_iconst (v := 4) hx hb dX12_session_139 (by decide) ?_
      refine qM_Si (As := [.int a1, .int 4]) (rest := [.ref (b + adM 1 0)]) C0 (c_X12_sessionAt l h) (va_cwS 2 C0.2.2.2.2 (tbS mM8_7_233 ⟨mM8_7_234, mM8_1_11, mM8_7_235⟩) rfl rfl rfl (by decide +kernel) ⟨Nat.le_of_ble_eq_true rfl, Nat.le_of_ble_eq_true rfl⟩) hR hT hS rfl hl.1 rfl (Nat.le_of_ble_eq_true rfl) dX12_session_140 ⟨Nat.zero_le _, Nat.zero_le _⟩ (fun r33 S34 H locs h hR hS => ?_)
      obtain ⟨j35, hj35, ej35, h⟩ := h
      refine lM_1 C0 hR Nat.zero_lt_one hj35 ej35 dX12_session_143 ?_
      exact rtM_i C0 hr hlk hR hS h dX12_session_144
    have h := h.2 c32
    refine lv_tableOut (tgt := 145) hx hb dX12_session_44 (by have a9 := fun j : Int32 => (Int32.toInt_inj (x := a2) (y := j)).mp; have b9 : ∀ j : Int32, a2 ≠ j → (a2 : Int32).toInt ≠ j.toInt := fun j n9 q9 => n9 (a9 j q9); have c13_ := b9 _ c13; have c17_ := b9 _ c17; have c21_ := b9 _ c21; have c24_ := b9 _ c24; have c28_ := b9 _ c28; have c32_ := b9 _ c32; simp at c13_ c17_ c21_ c24_ c28_ c32_; omega) (by decide) ?_
    refine lv_aload_n hx hb dX12_session_145 rfl (lv_at hl 0 rfl) ?_
    refine lv_iload_n hx hb dX12_session_146 rfl (lv_at hl 1 rfl) ?_
    refine lv_iload_n hx hb dX12_session_147 rfl (lv_at hl 2 rfl) ?_
    refine lv_bipush (v := 6) hx hb dX12_session_148 (by decide) ?_
    refine lv_isub hx hb dX12_session_150 ?_
    refine qM_Vi (As := [.int a1, .int (a2 - 6)]) (rest := []) C0 (c_X12_holdsOf l h) (cwV 2 C0.2.2.2.2 (tbV mM8_9_93 ⟨mM8_9_95, mpM8_6_15, mM8_1_11, mM8_9_96⟩) rfl rfl rfl (by decide +kernel) ⟨Nat.le_of_ble_eq_true rfl, Nat.le_of_ble_eq_true rfl⟩) (rcM_0 hR Nat.zero_lt_one) hR hT hS rfl hl.1 rfl (Nat.le_of_ble_eq_true rfl) dX12_session_151 ⟨Nat.zero_le _, Nat.zero_le _⟩ (fun r36 S37 H locs h hR hS => ?_)
    exact rtM_i C0 hr hlk hR hS h dX12_session_154
  · have h := h.2 c12
    refine lv_iconst (v := 0) hx hb dX12_session_41 (by decide) ?_
    exact rtM_i C0 hr hlk hR hS h dX12_session_42
def F_X12_session (a1 : Int32) (a2 : Int32) (S : sSt) (k : Int32 → sSt → Prop) : Prop := ∀ S1, S1 = uI S 0 0 0 0 → F_X12_noSession a1 S1 (fun r2 S3 => F_X12_throwsIf r2 1 S3 (fun r4 S5 => ((¬ r4 = 0 → k 0 S5) ∧ (r4 = 0 → F_X12_in a2 0 9 S5 (fun r7 S8 => ((¬ r7 = 0 → B_X12_session_34 a1 a2 0 S8 k) ∧ (r7 = 0 → B_X12_session_34 a1 a2 1 S8 k)))))))
set_option maxHeartbeats 4000000 in
set_option maxRecDepth 100000 in
theorem c_X12_session (l : Launch) {D : va_G} {cy : Nat → ClassId} {b z : Nat} {tx : TX} {a1 : Int32} {a2 : Int32} {S : sSt} {k : Int32 → sSt → Prop} (h : F_X12_session a1 a2 S k) : Met l yX12_session (Cond.code yX12_session cX12_session 3 (some .int) :: TB) rm_X12_session (va_Pc [.ref (b + adM 0 0), .int a1, .int a2] (fun U => RelM D cy b z tx S U U.heap ∧ TxR tx U)) (PiM D cy b z tx k) 0 0 (gA b 12 z) := by
  refine Met.ofW (cc := cX12_session) (maxL := 3) (ret := (some .int)) (by decide) rfl ?_
  intro p e s m args below meth c s₁ B hml hv
  obtain ⟨rfl, hR, hT⟩ := hv
  have C0 : CallFix p m c cX12_session 3 s _ TB RX12 := ⟨B.exec, B.bytes, hml, findClass_of_methodNamed B.named, fun w hw => atoms_spec B.pre w (List.mem_cons_of_mem _ hw)⟩
  have hr := B.returns
  have hlk := B.notSynchronized
  have hx := C0.1
  have hb := C0.2.1
  have hS : va_S (gA b 12 z) s.heap s.heap [] := va_S.rf
  have hl := lv_entry ([.ref (b + adM 0 0), .int a1, .int a2]) (n := 3) (Nat.le_of_ble_eq_true rfl)
  rw [lg_entry_eq]
  generalize (lg_sl ([.ref (b + adM 0 0), .int a1, .int a2]) ++ List.replicate (3 - (lg_sl ([.ref (b + adM 0 0), .int a1, .int a2])).length) Slot.unset).toArray = ls at hl ⊢
  have hl : lv_has ls 3 [(0, .ref (b + adM 0 0)), (1, .int a1), (2, .int a2)] := hl
  show W p l e rm_X12_session s m _ below meth c s.heap [] 0 0 (MQ below (PiM D cy b z tx k) _ s 0 0 (gA b 12 z)) _
  unfold F_X12_session at h
  refine lv_aload_n hx hb dX12_session_0 rfl (lv_at hl 0 rfl) ?_
  refine lv_iconst (v := 0) hx hb dX12_session_1 (by decide) ?_
  refine pM_0_0 C0 hR hS Nat.zero_lt_one tbs_wsX120 mM8_7_77 dX12_session_2 (fun S1 eS1 H locs hR hS => ?_)
  have h := h S1 eS1
  refine lv_aload_n hx hb dX12_session_5 rfl (lv_at hl 0 rfl) ?_
  refine lv_aload_n hx hb dX12_session_6 rfl (lv_at hl 0 rfl) ?_
  refine lv_iload_n hx hb dX12_session_7 rfl (lv_at hl 1 rfl) ?_
  refine qM_Vi (As := [.int a1]) (rest := [.ref (b + adM 0 0)]) C0 (c_X12_noSession l h) (cwV 1 C0.2.2.2.2 (tbV mM8_8_33 ⟨mM8_8_35, mpM8_3_14, mM8_1_11, mM8_8_36⟩) rfl rfl rfl (by decide +kernel) ⟨Nat.le_of_ble_eq_true rfl, Nat.le_of_ble_eq_true rfl⟩) (rcM_0 hR Nat.zero_lt_one) hR hT hS rfl hl.1 rfl (Nat.le_of_ble_eq_true rfl) dX12_session_8 ⟨Nat.zero_le _, Nat.zero_le _⟩ (fun r2 S3 H locs h hR hS => ?_)
  refine lv_iconst (v := 1) hx hb dX12_session_11 (by decide) ?_
  refine qM_Vi (As := [.int r2, .int 1]) (rest := []) C0 (c_X12_throwsIf l h) (cwV 2 C0.2.2.2.2 (tbV mM8_8_25 ⟨mM8_8_27, mpM8_3_13, mM8_1_11, mM8_8_28⟩) rfl rfl rfl (by decide +kernel) ⟨Nat.le_of_ble_eq_true rfl, Nat.le_of_ble_eq_true rfl⟩) (rcM_0 hR Nat.zero_lt_one) hR hT hS rfl hl.1 rfl (Nat.le_of_ble_eq_true rfl) dX12_session_12 ⟨Nat.zero_le _, Nat.zero_le _⟩ (fun r4 S5 H locs h hR hS => ?_)
  refine lv_if_ne (tgt := 41) hx hb dX12_session_15 (by decide) (fun c6 => ?_) (fun c6 => ?_)
  · have h := h.1 c6
    refine lv_iconst (v := 0) hx hb dX12_session_41 (by decide) ?_
    exact rtM_i C0 hr hlk hR hS h dX12_session_42
  · have h := h.2 c6
    refine lv_aload_n hx hb dX12_session_18 rfl (lv_at hl 0 rfl) ?_
    refine lv_iload_n hx hb dX12_session_19 rfl (lv_at hl 2 rfl) ?_
    refine lv_iconst (v := 0) hx hb dX12_session_20 (by decide) ?_
    refine lv_bipush (v := 9) hx hb dX12_session_21 (by decide) ?_
    refine qM_Si (As := [.int a2, .int 0, .int 9]) (rest := [.ref (b + adM 0 0)]) C0 (c_X12_in l h) (va_cwS 3 C0.2.2.2.2 (tbS mM8_8_37 ⟨mM8_8_38, mM8_1_11, mM8_8_39⟩) rfl rfl rfl (by decide +kernel) ⟨Nat.le_of_ble_eq_true rfl, Nat.le_of_ble_eq_true rfl⟩) hR hT hS rfl hl.1 rfl (Nat.le_of_ble_eq_true rfl) dX12_session_23 ⟨Nat.zero_le _, Nat.zero_le _⟩ (fun r7 S8 H locs h hR hS => ?_)
    refine lv_if_ne (tgt := 33) hx hb dX12_session_26 (by decide) (fun c9 => ?_) (fun c9 => ?_)
    · have h := h.1 c9
      refine lv_iconst (v := 0) hx hb dX12_session_33 (by decide) ?_
      exact Bw_X12_session_34 C0 hr hlk hT a1 a2 0 S8 _ _ _ h hR hS (lv_sub hl [0, 1, 2] rfl)
    · have h := h.2 c9
      refine lv_iconst (v := 1) hx hb dX12_session_29 (by decide) ?_
      refine lv_goto (tgt := 34) hx hb dX12_session_30 (by decide) ?_
      exact Bw_X12_session_34 C0 hr hlk hT a1 a2 1 S8 _ _ _ h hR hS (lv_sub hl [0, 1, 2] rfl)

def rm_X12_plan : Room := { frames := 2, cells := 0, slots := 0, locals := 43 }
def B_X12_plan_49 (a1 : Int32) (a2 : Int32) (t1 : Int32) (S : sSt) (k : Int32 → sSt → Prop) : Prop := F_X12_throwsIf t1 2 S (fun r11 S12 => ((r11 = 0 → ((a2 = 0 → F_X12_planAt a1 0 S12 (fun r15 S16 => ix r15 10421 (fun j17 => k (S16.1 1 0 j17) S16))) ∧ (¬ a2 = 0 → ((a2 = 1 → F_X12_planAt a1 1 S12 (fun r19 S20 => ix r19 10421 (fun j21 => k (S20.1 1 0 j21) S20))) ∧ (¬ a2 = 1 → ((a2 = 2 → F_X12_planAt a1 5 S12 (fun r23 S24 => ix r23 10421 (fun j25 => k (S24.1 1 0 j25) S24))) ∧ (¬ a2 = 2 → ((a2 = 3 → F_X12_planAt a1 6 S12 (fun r27 S28 => ix r27 10421 (fun j29 => k (S28.1 1 0 j29) S28))) ∧ (¬ a2 = 3 → ((a2 = 4 → F_X12_planAt a1 7 S12 (fun r31 S32 => ix r31 10421 (fun j33 => k (S32.1 1 0 j33) S32))) ∧ (¬ a2 = 4 → F_X12_planAt a1 7 S12 (fun r34 S35 => ix r34 10421 (fun j36 => F_X12_timeOf a1 ((S35.1 1 0 j36) + 1) S35 (fun r37 S38 => k r37 S38)))))))))))))) ∧ (¬ r11 = 0 → k 0 S12)))
set_option maxHeartbeats 4000000 in
set_option maxRecDepth 100000 in
theorem Bw_X12_plan_49 {p : Program} {l : Launch} {e : Env} {s : State} {m : MethodId} {args : Array Value} {below : List Frame} {meth : Method} {c : Code} {D : va_G} {cy : Nat → ClassId} {b z : Nat} {tx : TX} (C0 : CallFix p m c cX12_plan 3 s args TB RX12) (hr : meth.sig.returnType = (some .int)) (hlk : meth.locks = false) (hT : TxR tx s) {k : Int32 → sSt → Prop} : ∀ (a1 : Int32) (a2 : Int32) (t1 : Int32) (S : sSt) (H : Heap) (locs : List Loc) (ls : Array Slot) , B_X12_plan_49 a1 a2 t1 S k → RelM D cy b z tx S s H → va_S (gA b 12 z) s.heap H locs → lv_has ls 3 [(0, .ref (b + adM 0 0)), (1, .int a1), (2, .int a2)] → W p l e rm_X12_plan s m args below meth c H locs 0 0 (MQ below (PiM D cy b z tx k) args s 0 0 (gA b 12 z)) (F0 m 49 ls [.int t1, .ref (b + adM 0 0)]) := by
  intro a1 a2 t1 S H locs ls h hR hS hl
  have hx := C0.1
  have hb := C0.2.1
  unfold B_X12_plan_49 at h
  refine lv_iconst (v := 2) hx hb dX12_plan_49 (by decide) ?_
  refine qM_Vi (As := [.int t1, .int 2]) (rest := []) C0 (c_X12_throwsIf l h) (cwV 2 C0.2.2.2.2 (tbV mM8_8_25 ⟨mM8_8_27, mpM8_3_13, mM8_1_11, mM8_8_28⟩) rfl rfl rfl (by decide +kernel) ⟨Nat.le_of_ble_eq_true rfl, Nat.le_of_ble_eq_true rfl⟩) (rcM_0 hR Nat.zero_lt_one) hR hT hS rfl hl.1 rfl (Nat.le_of_ble_eq_true rfl) dX12_plan_50 ⟨Nat.zero_le _, Nat.zero_le _⟩ (fun r11 S12 H locs h hR hS => ?_)
  refine lv_if_eq (tgt := 58) hx hb dX12_plan_53 (by decide) (fun c13 => ?_) (fun c13 => ?_)
  · have h := h.1 c13
    refine lv_iload_n hx hb dX12_plan_58 rfl (lv_at hl 2 rfl) ?_
    by_cases c14 : a2 = 0
    · have h := h.1 c14
      refine lv_tableIn (tgt := 92) hx hb dX12_plan_59 (by rw [c14]; decide) (by rw [c14]; decide) (by rw [c14]; rfl) (by decide) ?_
      refine lv_aload_n hx hb dX12_plan_92 rfl (lv_at hl 0 rfl) ?_
      refine gM_0_2 C0 hR Nat.zero_lt_one tbs_wsX120 mM8_7_79 dX12_plan_93 ?_
      refine lv_iload_n hx hb dX12_plan_96 rfl (lv_at hl 1 rfl) ?_
      refine lv_iconst (v := 0) hx hb dX12_plan_97 (by decide) ?_
      refine qM_Si (As := [.int a1, .int 0]) (rest := [.ref (b + adM 1 0)]) C0 (c_X12_planAt l h) (va_cwS 2 C0.2.2.2.2 (tbS mM8_8_13 ⟨mM8_8_14, mM8_1_11, mM8_8_15⟩) rfl rfl rfl (by decide +kernel) ⟨Nat.le_of_ble_eq_true rfl, Nat.le_of_ble_eq_true rfl⟩) hR hT hS rfl hl.1 rfl (Nat.le_of_ble_eq_true rfl) dX12_plan_98 ⟨Nat.zero_le _, Nat.zero_le _⟩ (fun r15 S16 H locs h hR hS => ?_)
      obtain ⟨j17, hj17, ej17, h⟩ := h
      refine lM_1 C0 hR Nat.zero_lt_one hj17 ej17 dX12_plan_101 ?_
      exact rtM_i C0 hr hlk hR hS h dX12_plan_102
    have h := h.2 c14
    by_cases c18 : a2 = 1
    · have h := h.1 c18
      refine lv_tableIn (tgt := 103) hx hb dX12_plan_59 (by rw [c18]; decide) (by rw [c18]; decide) (by rw [c18]; rfl) (by decide) ?_
      refine lv_aload_n hx hb dX12_plan_103 rfl (lv_at hl 0 rfl) ?_
      refine gM_0_2 C0 hR Nat.zero_lt_one tbs_wsX120 mM8_7_79 dX12_plan_104 ?_
      refine lv_iload_n hx hb dX12_plan_107 rfl (lv_at hl 1 rfl) ?_
      refine lv_iconst (v := 1) hx hb dX12_plan_108 (by decide) ?_
      refine qM_Si (As := [.int a1, .int 1]) (rest := [.ref (b + adM 1 0)]) C0 (c_X12_planAt l h) (va_cwS 2 C0.2.2.2.2 (tbS mM8_8_13 ⟨mM8_8_14, mM8_1_11, mM8_8_15⟩) rfl rfl rfl (by decide +kernel) ⟨Nat.le_of_ble_eq_true rfl, Nat.le_of_ble_eq_true rfl⟩) hR hT hS rfl hl.1 rfl (Nat.le_of_ble_eq_true rfl) dX12_plan_109 ⟨Nat.zero_le _, Nat.zero_le _⟩ (fun r19 S20 H locs h hR hS => ?_)
      obtain ⟨j21, hj21, ej21, h⟩ := h
      refine lM_1 C0 hR Nat.zero_lt_one hj21 ej21 dX12_plan_112 ?_
      exact rtM_i C0 hr hlk hR hS h dX12_plan_113
    have h := h.2 c18
    by_cases c22 : a2 = 2
    · have h := h.1 c22
      refine lv_tableIn (tgt := 114) hx hb dX12_plan_59 (by rw [c22]; decide) (by rw [c22]; decide) (by rw [c22]; rfl) (by decide) ?_
      refine lv_aload_n hx hb dX12_plan_114 rfl (lv_at hl 0 rfl) ?_
      refine gM_0_2 C0 hR Nat.zero_lt_one tbs_wsX120 mM8_7_79 dX12_plan_115 ?_
      refine lv_iload_n hx hb dX12_plan_118 rfl (lv_at hl 1 rfl) ?_
      refine lv_iconst (v := 5) hx hb dX12_plan_119 (by decide) ?_
      refine qM_Si (As := [.int a1, .int 5]) (rest := [.ref (b + adM 1 0)]) C0 (c_X12_planAt l h) (va_cwS 2 C0.2.2.2.2 (tbS mM8_8_13 ⟨mM8_8_14, mM8_1_11, mM8_8_15⟩) rfl rfl rfl (by decide +kernel) ⟨Nat.le_of_ble_eq_true rfl, Nat.le_of_ble_eq_true rfl⟩) hR hT hS rfl hl.1 rfl (Nat.le_of_ble_eq_true rfl) dX12_plan_120 ⟨Nat.zero_le _, Nat.zero_le _⟩ (fun r23 S24 H locs h hR hS => ?_)
      obtain ⟨j25, hj25, ej25, h⟩ := h
      refine lM_1 C0 hR Nat.zero_lt_one hj25 ej25 dX12_plan_123 ?_
      exact rtM_i C0 hr hlk hR hS h dX12_plan_124
    have h := h.2 c22
    by_cases c26 : a2 = 3
    · have h := h.1 c26
      refine lv_tableIn (tgt := 125) hx hb dX12_plan_59 (by rw [c26]; decide) (by rw [c26]; decide) (by rw [c26]; rfl) (by decide) ?_
      refine lv_aload_n hx hb dX12_plan_125 rfl (lv_at hl 0 rfl) ?_
      refine gM_0_2 C0 hR Nat.zero_lt_one tbs_wsX120 mM8_7_79 dX12_plan_126 ?_
      refine lv_iload_n hx hb dX12_plan_129 rfl (lv_at hl 1 rfl) ?_
      refine lv_bipush (v := 6) hx hb dX12_plan_130 (by decide) ?_
      refine qM_Si (As := [.int a1, .int 6]) (rest := [.ref (b + adM 1 0)]) C0 (c_X12_planAt l h) (va_cwS 2 C0.2.2.2.2 (tbS mM8_8_13 ⟨mM8_8_14, mM8_1_11, mM8_8_15⟩) rfl rfl rfl (by decide +kernel) ⟨Nat.le_of_ble_eq_true rfl, Nat.le_of_ble_eq_true rfl⟩) hR hT hS rfl hl.1 rfl (Nat.le_of_ble_eq_true rfl) dX12_plan_132 ⟨Nat.zero_le _, Nat.zero_le _⟩ (fun r27 S28 H locs h hR hS => ?_)
      obtain ⟨j29, hj29, ej29, h⟩ := h
      refine lM_1 C0 hR Nat.zero_lt_one hj29 ej29 dX12_plan_135 ?_
      exact rtM_i C0 hr hlk hR hS h dX12_plan_136
    have h := h.2 c26
    by_cases c30 : a2 = 4
    · have h := h.1 c30
      refine lv_tableIn (tgt := 137) hx hb dX12_plan_59 (by rw [c30]; decide) (by rw [c30]; decide) (by rw [c30]; rfl) (by decide) ?_
      refine lv_aload_n hx hb dX12_plan_137 rfl (lv_at hl 0 rfl) ?_
      refine gM_0_2 C0 hR Nat.zero_lt_one tbs_wsX120 mM8_7_79 dX12_plan_138 ?_
      refine lv_iload_n hx hb dX12_plan_141 rfl (lv_at hl 1 rfl) ?_
      refine lv_bipush (v := 7) hx hb dX12_plan_142 (by decide) ?_
      refine qM_Si (As := [.int a1, .int 7]) (rest := [.ref (b + adM 1 0)]) C0 (c_X12_planAt l h) (va_cwS 2 C0.2.2.2.2 (tbS mM8_8_13 ⟨mM8_8_14, mM8_1_11, mM8_8_15⟩) rfl rfl rfl (by decide +kernel) ⟨Nat.le_of_ble_eq_true rfl, Nat.le_of_ble_eq_true rfl⟩) hR hT hS rfl hl.1 rfl (Nat.le_of_ble_eq_true rfl) dX12_plan_144 ⟨Nat.zero_le _, Nat.zero_le _⟩ (fun r31 S32 H locs h hR hS => ?_)
      obtain ⟨j33, hj33, ej33, h⟩ := h
      refine lM_1 C0 hR Nat.zero_lt_one hj33 ej33 dX12_plan_147 ?_
      exact rtM_i C0 hr hlk hR hS h dX12_plan_148
    have h := h.2 c30
    refine lv_tableOut (tgt := 149) hx hb dX12_plan_59 (by have a9 := fun j : Int32 => (Int32.toInt_inj (x := a2) (y := j)).mp; have b9 : ∀ j : Int32, a2 ≠ j → (a2 : Int32).toInt ≠ j.toInt := fun j n9 q9 => n9 (a9 j q9); have c14_ := b9 _ c14; have c18_ := b9 _ c18; have c22_ := b9 _ c22; have c26_ := b9 _ c26; have c30_ := b9 _ c30; simp at c14_ c18_ c22_ c26_ c30_; omega) (by decide) ?_
    refine lv_aload_n hx hb dX12_plan_149 rfl (lv_at hl 0 rfl) ?_
    refine lv_iload_n hx hb dX12_plan_150 rfl (lv_at hl 1 rfl) ?_
    refine lv_aload_n hx hb dX12_plan_151 rfl (lv_at hl 0 rfl) ?_
    refine gM_0_2 C0 hR Nat.zero_lt_one tbs_wsX120 mM8_7_79 dX12_plan_152 ?_
    refine lv_iload_n hx hb dX12_plan_155 rfl (lv_at hl 1 rfl) ?_
    refine lv_bipush (v := 7) hx hb dX12_plan_156 (by decide) ?_
    refine qM_Si (As := [.int a1, .int 7]) (rest := [.ref (b + adM 1 0), .int a1, .ref (b + adM 0 0)]) C0 (c_X12_planAt l h) (va_cwS 2 C0.2.2.2.2 (tbS mM8_8_13 ⟨mM8_8_14, mM8_1_11, mM8_8_15⟩) rfl rfl rfl (by decide +kernel) ⟨Nat.le_of_ble_eq_true rfl, Nat.le_of_ble_eq_true rfl⟩) hR hT hS rfl hl.1 rfl (Nat.le_of_ble_eq_true rfl) dX12_plan_158 ⟨Nat.zero_le _, Nat.zero_le _⟩ (fun r34 S35 H locs h hR hS => ?_)
    obtain ⟨j36, hj36, ej36, h⟩ := h
    refine lM_1 C0 hR Nat.zero_lt_one hj36 ej36 dX12_plan_161 ?_
    refine lv_iconst (v := 1) hx hb dX12_plan_162 (by decide) ?_
    refine lv_iadd hx hb dX12_plan_163 ?_
    refine qM_Vi (As := [.int a1, .int ((S35.1 1 0 j36) + 1)]) (rest := []) C0 (c_X12_timeOf l h) (cwV 2 C0.2.2.2.2 (tbV mM8_9_49 ⟨mM8_9_51, mpM8_6_10, mM8_1_11, mM8_9_52⟩) rfl rfl rfl (by decide +kernel) ⟨Nat.le_of_ble_eq_true rfl, Nat.le_of_ble_eq_true rfl⟩) (rcM_0 hR Nat.zero_lt_one) hR hT hS rfl hl.1 rfl (Nat.le_of_ble_eq_true rfl) dX12_plan_164 ⟨Nat.zero_le _, Nat.zero_le _⟩ (fun r37 S38 H locs h hR hS => ?_)
    exact rtM_i C0 hr hlk hR hS h dX12_plan_167
  · have h := h.2 c13
    refine lv_iconst (v := 0) hx hb dX12_plan_56 (by decide) ?_
    exact rtM_i C0 hr hlk hR hS h dX12_plan_57
def B_X12_plan_27 (a1 : Int32) (a2 : Int32) (t1 : Int32) (S : sSt) (k : Int32 → sSt → Prop) : Prop := F_X12_throwsIf t1 1 S (fun r5 S6 => ((¬ r5 = 0 → k 0 S6) ∧ (r5 = 0 → F_X12_in a2 0 5 S6 (fun r8 S9 => ((¬ r8 = 0 → B_X12_plan_49 a1 a2 0 S9 k) ∧ (r8 = 0 → B_X12_plan_49 a1 a2 1 S9 k))))))
set_option maxHeartbeats 4000000 in
set_option maxRecDepth 100000 in
theorem Bw_X12_plan_27 {p : Program} {l : Launch} {e : Env} {s : State} {m : MethodId} {args : Array Value} {below : List Frame} {meth : Method} {c : Code} {D : va_G} {cy : Nat → ClassId} {b z : Nat} {tx : TX} (C0 : CallFix p m c cX12_plan 3 s args TB RX12) (hr : meth.sig.returnType = (some .int)) (hlk : meth.locks = false) (hT : TxR tx s) {k : Int32 → sSt → Prop} : ∀ (a1 : Int32) (a2 : Int32) (t1 : Int32) (S : sSt) (H : Heap) (locs : List Loc) (ls : Array Slot) , B_X12_plan_27 a1 a2 t1 S k → RelM D cy b z tx S s H → va_S (gA b 12 z) s.heap H locs → lv_has ls 3 [(0, .ref (b + adM 0 0)), (1, .int a1), (2, .int a2)] → W p l e rm_X12_plan s m args below meth c H locs 0 0 (MQ below (PiM D cy b z tx k) args s 0 0 (gA b 12 z)) (F0 m 27 ls [.int t1, .ref (b + adM 0 0)]) := by
  intro a1 a2 t1 S H locs ls h hR hS hl
  have hx := C0.1
  have hb := C0.2.1
  unfold B_X12_plan_27 at h
  refine lv_iconst (v := 1) hx hb dX12_plan_27 (by decide) ?_
  refine qM_Vi (As := [.int t1, .int 1]) (rest := []) C0 (c_X12_throwsIf l h) (cwV 2 C0.2.2.2.2 (tbV mM8_8_25 ⟨mM8_8_27, mpM8_3_13, mM8_1_11, mM8_8_28⟩) rfl rfl rfl (by decide +kernel) ⟨Nat.le_of_ble_eq_true rfl, Nat.le_of_ble_eq_true rfl⟩) (rcM_0 hR Nat.zero_lt_one) hR hT hS rfl hl.1 rfl (Nat.le_of_ble_eq_true rfl) dX12_plan_28 ⟨Nat.zero_le _, Nat.zero_le _⟩ (fun r5 S6 H locs h hR hS => ?_)
  refine lv_if_ne (tgt := 56) hx hb dX12_plan_31 (by decide) (fun c7 => ?_) (fun c7 => ?_)
  · have h := h.1 c7
    refine lv_iconst (v := 0) hx hb dX12_plan_56 (by decide) ?_
    exact rtM_i C0 hr hlk hR hS h dX12_plan_57
  · have h := h.2 c7
    refine lv_aload_n hx hb dX12_plan_34 rfl (lv_at hl 0 rfl) ?_
    refine lv_iload_n hx hb dX12_plan_35 rfl (lv_at hl 2 rfl) ?_
    refine lv_iconst (v := 0) hx hb dX12_plan_36 (by decide) ?_
    refine lv_iconst (v := 5) hx hb dX12_plan_37 (by decide) ?_
    refine qM_Si (As := [.int a2, .int 0, .int 5]) (rest := [.ref (b + adM 0 0)]) C0 (c_X12_in l h) (va_cwS 3 C0.2.2.2.2 (tbS mM8_8_37 ⟨mM8_8_38, mM8_1_11, mM8_8_39⟩) rfl rfl rfl (by decide +kernel) ⟨Nat.le_of_ble_eq_true rfl, Nat.le_of_ble_eq_true rfl⟩) hR hT hS rfl hl.1 rfl (Nat.le_of_ble_eq_true rfl) dX12_plan_38 ⟨Nat.zero_le _, Nat.zero_le _⟩ (fun r8 S9 H locs h hR hS => ?_)
    refine lv_if_ne (tgt := 48) hx hb dX12_plan_41 (by decide) (fun c10 => ?_) (fun c10 => ?_)
    · have h := h.1 c10
      refine lv_iconst (v := 0) hx hb dX12_plan_48 (by decide) ?_
      exact Bw_X12_plan_49 C0 hr hlk hT a1 a2 0 S9 _ _ _ h hR hS (lv_sub hl [0, 1, 2] rfl)
    · have h := h.2 c10
      refine lv_iconst (v := 1) hx hb dX12_plan_44 (by decide) ?_
      refine lv_goto (tgt := 49) hx hb dX12_plan_45 (by decide) ?_
      exact Bw_X12_plan_49 C0 hr hlk hT a1 a2 1 S9 _ _ _ h hR hS (lv_sub hl [0, 1, 2] rfl)
def F_X12_plan (a1 : Int32) (a2 : Int32) (S : sSt) (k : Int32 → sSt → Prop) : Prop := ∀ S1, S1 = uI S 0 0 0 0 → F_X12_in a1 0 ((S1.1 1 0 1) - 1) S1 (fun r2 S3 => ((¬ r2 = 0 → B_X12_plan_27 a1 a2 0 S3 k) ∧ (r2 = 0 → B_X12_plan_27 a1 a2 1 S3 k)))
set_option maxHeartbeats 4000000 in
set_option maxRecDepth 100000 in
theorem c_X12_plan (l : Launch) {D : va_G} {cy : Nat → ClassId} {b z : Nat} {tx : TX} {a1 : Int32} {a2 : Int32} {S : sSt} {k : Int32 → sSt → Prop} (h : F_X12_plan a1 a2 S k) : Met l yX12_plan (Cond.code yX12_plan cX12_plan 3 (some .int) :: TB) rm_X12_plan (va_Pc [.ref (b + adM 0 0), .int a1, .int a2] (fun U => RelM D cy b z tx S U U.heap ∧ TxR tx U)) (PiM D cy b z tx k) 0 0 (gA b 12 z) := by
  refine Met.ofW (cc := cX12_plan) (maxL := 3) (ret := (some .int)) (by decide) rfl ?_
  intro p e s m args below meth c s₁ B hml hv
  obtain ⟨rfl, hR, hT⟩ := hv
  have C0 : CallFix p m c cX12_plan 3 s _ TB RX12 := ⟨B.exec, B.bytes, hml, findClass_of_methodNamed B.named, fun w hw => atoms_spec B.pre w (List.mem_cons_of_mem _ hw)⟩
  have hr := B.returns
  have hlk := B.notSynchronized
  have hx := C0.1
  have hb := C0.2.1
  have hS : va_S (gA b 12 z) s.heap s.heap [] := va_S.rf
  have hl := lv_entry ([.ref (b + adM 0 0), .int a1, .int a2]) (n := 3) (Nat.le_of_ble_eq_true rfl)
  rw [lg_entry_eq]
  generalize (lg_sl ([.ref (b + adM 0 0), .int a1, .int a2]) ++ List.replicate (3 - (lg_sl ([.ref (b + adM 0 0), .int a1, .int a2])).length) Slot.unset).toArray = ls at hl ⊢
  have hl : lv_has ls 3 [(0, .ref (b + adM 0 0)), (1, .int a1), (2, .int a2)] := hl
  show W p l e rm_X12_plan s m _ below meth c s.heap [] 0 0 (MQ below (PiM D cy b z tx k) _ s 0 0 (gA b 12 z)) _
  unfold F_X12_plan at h
  refine lv_aload_n hx hb dX12_plan_0 rfl (lv_at hl 0 rfl) ?_
  refine lv_iconst (v := 0) hx hb dX12_plan_1 (by decide) ?_
  refine pM_0_0 C0 hR hS Nat.zero_lt_one tbs_wsX120 mM8_7_77 dX12_plan_2 (fun S1 eS1 H locs hR hS => ?_)
  have h := h S1 eS1
  refine lv_aload_n hx hb dX12_plan_5 rfl (lv_at hl 0 rfl) ?_
  refine lv_iload_n hx hb dX12_plan_6 rfl (lv_at hl 1 rfl) ?_
  refine lv_iconst (v := 0) hx hb dX12_plan_7 (by decide) ?_
  refine lv_aload_n hx hb dX12_plan_8 rfl (lv_at hl 0 rfl) ?_
  refine gM_0_2 C0 hR Nat.zero_lt_one tbs_wsX120 mM8_7_79 dX12_plan_9 ?_
  refine lv_iconst (v := 1) hx hb dX12_plan_12 (by decide) ?_
  refine lM_1 C0 hR Nat.zero_lt_one (by decide) rfl dX12_plan_13 ?_
  refine lv_iconst (v := 1) hx hb dX12_plan_14 (by decide) ?_
  refine lv_isub hx hb dX12_plan_15 ?_
  refine qM_Si (As := [.int a1, .int 0, .int ((S1.1 1 0 1) - 1)]) (rest := [.ref (b + adM 0 0)]) C0 (c_X12_in l h) (va_cwS 3 C0.2.2.2.2 (tbS mM8_8_37 ⟨mM8_8_38, mM8_1_11, mM8_8_39⟩) rfl rfl rfl (by decide +kernel) ⟨Nat.le_of_ble_eq_true rfl, Nat.le_of_ble_eq_true rfl⟩) hR hT hS rfl hl.1 rfl (Nat.le_of_ble_eq_true rfl) dX12_plan_16 ⟨Nat.zero_le _, Nat.zero_le _⟩ (fun r2 S3 H locs h hR hS => ?_)
  refine lv_if_ne (tgt := 26) hx hb dX12_plan_19 (by decide) (fun c4 => ?_) (fun c4 => ?_)
  · have h := h.1 c4
    refine lv_iconst (v := 0) hx hb dX12_plan_26 (by decide) ?_
    exact Bw_X12_plan_27 C0 hr hlk hT a1 a2 0 S3 _ _ _ h hR hS (lv_sub hl [0, 1, 2] rfl)
  · have h := h.2 c4
    refine lv_iconst (v := 1) hx hb dX12_plan_22 (by decide) ?_
    refine lv_goto (tgt := 27) hx hb dX12_plan_23 (by decide) ?_
    exact Bw_X12_plan_27 C0 hr hlk hT a1 a2 1 S3 _ _ _ h hR hS (lv_sub hl [0, 1, 2] rfl)

def rm_X12_claimSeen : Room := { frames := 9, cells := 0, slots := 0, locals := 202 }
def Bb_X12_claimSeen_17 (kk17 : Int32 → Int32 → sSt → Prop) (a3 : Int32) (a4 : Int32) (S : sSt) (k : Int32 → sSt → Prop) : Prop := ((a3 ≤ a4 → k a3 S) ∧ (¬ a3 ≤ a4 → ix a4 6 (fun j8 => ∀ S9, S9 = uI S 9 0 j8 (S.1 8 0 j8) → ∀ x10 : Int32, x10 = a4 + 1 → kk17 a3 x10 S9)))
set_option maxHeartbeats 4000000 in
set_option maxRecDepth 100000 in
theorem Bbw_X12_claimSeen_17 {p : Program} {l : Launch} {e : Env} {s : State} {m : MethodId} {args : Array Value} {below : List Frame} {meth : Method} {c : Code} {D : va_G} {cy : Nat → ClassId} {b z : Nat} {tx : TX} (C0 : CallFix p m c cX12_claimSeen 5 s args TB RX12) (hr : meth.sig.returnType = (some .int)) (hlk : meth.locks = false) (hT : TxR tx s) {k : Int32 → sSt → Prop} {kk17 : Int32 → Int32 → sSt → Prop} (ih17 : ∀ (a3 : Int32) (a4 : Int32) (S : sSt) (H : Heap) (locs : List Loc) (ls : Array Slot) , kk17 a3 a4 S → RelM D cy b z tx S s H → va_S (gA b 12 z) s.heap H locs → lv_has ls 5 [(0, .ref (b + adM 0 0)), (2, .ref (b + adM 9 0)), (3, .int a3), (4, .int a4)] → W p l e rm_X12_claimSeen s m args below meth c H locs 0 0 (MQ below (PiM D cy b z tx k) args s 0 0 (gA b 12 z)) (F0 m 17 ls [])) : ∀ (a3 : Int32) (a4 : Int32) (S : sSt) (H : Heap) (locs : List Loc) (ls : Array Slot) , Bb_X12_claimSeen_17 kk17 a3 a4 S k → RelM D cy b z tx S s H → va_S (gA b 12 z) s.heap H locs → lv_has ls 5 [(0, .ref (b + adM 0 0)), (2, .ref (b + adM 9 0)), (3, .int a3), (4, .int a4)] → W p l e rm_X12_claimSeen s m args below meth c H locs 0 0 (MQ below (PiM D cy b z tx k) args s 0 0 (gA b 12 z)) (F0 m 17 ls []) := by
  intro a3 a4 S H locs ls h hR hS hl
  have hx := C0.1
  have hb := C0.2.1
  unfold Bb_X12_claimSeen_17 at h
  refine lv_iload hx hb dX12_claimSeen_17 (lv_at hl 3 rfl) ?_
  refine lv_iload_n hx hb dX12_claimSeen_19 rfl (lv_at hl 2 rfl) ?_
  refine lv_icmp_ge (tgt := 40) hx hb dX12_claimSeen_20 (by decide) (fun c7 => ?_) (fun c7 => ?_)
  · have h := h.1 c7
    refine lv_iload_n hx hb dX12_claimSeen_40 rfl (lv_at hl 2 rfl) ?_
    exact rtM_i C0 hr hlk hR hS h dX12_claimSeen_41
  · have h := h.2 c7
    refine lv_aload_n hx hb dX12_claimSeen_23 rfl (lv_at hl 1 rfl) ?_
    refine lv_iload hx hb dX12_claimSeen_24 (lv_at hl 3 rfl) ?_
    refine lv_aload_n hx hb dX12_claimSeen_26 rfl (lv_at hl 0 rfl) ?_
    refine gM_0_15 C0 hR Nat.zero_lt_one tbs_wsX120 mM8_7_92 dX12_claimSeen_27 ?_
    refine lv_iload hx hb dX12_claimSeen_30 (lv_at hl 3 rfl) ?_
    obtain ⟨j8, hj8, ej8, h⟩ := h
    refine lM_8 C0 hR Nat.zero_lt_one hj8 ej8 dX12_claimSeen_32 ?_
    refine sM_9 C0 hR hS Nat.zero_lt_one hj8 ej8 dX12_claimSeen_33 (fun S9 eS9 H locs hR hS => ?_)
    have h := h S9 eS9
    obtain ⟨x10, ex10⟩ : ∃ x10 : Int32, x10 = a4 + 1 := ⟨_, rfl⟩
    have h := h x10 ex10
    refine w_iinc (v0 := 1) (lv' := [(4, .int x10), (0, .ref (b + adM 0 0)), (2, .ref (b + adM 9 0)), (3, .int a3)]) C0 dX12_claimSeen_34 hl (k := 3) rfl (by decide) (by decide) x10 ex10 rfl (fun ls hl => ?_)
    refine lv_goto (tgt := 17) hx hb dX12_claimSeen_37 (by decide) ?_
    exact ih17 a3 x10 S9 _ _ _  h hR hS (lv_sub hl [1, 2, 3, 0] rfl)
def B_X12_claimSeen_17 (n9 : Nat) (a3 : Int32) (a4 : Int32) (S : sSt) (k : Int32 → sSt → Prop) : Prop := (Nat.rec (motive := fun _ => Int32 → Int32 → sSt → Prop) (fun _ _ _ => False) (fun _ r9 => fun a3 a4 S => Bb_X12_claimSeen_17 r9 a3 a4 S k) n9 : Int32 → Int32 → sSt → Prop) a3 a4 S
theorem B_X12_claimSeen_17_s (n9 : Nat) (a3 : Int32) (a4 : Int32) (S : sSt) (k : Int32 → sSt → Prop) : B_X12_claimSeen_17 (n9 + 1) a3 a4 S k = Bb_X12_claimSeen_17 (fun a3 a4 S => B_X12_claimSeen_17 n9 a3 a4 S k) a3 a4 S k := rfl
set_option maxHeartbeats 4000000 in
set_option maxRecDepth 100000 in
theorem Bw_X12_claimSeen_17 {p : Program} {l : Launch} {e : Env} {s : State} {m : MethodId} {args : Array Value} {below : List Frame} {meth : Method} {c : Code} {D : va_G} {cy : Nat → ClassId} {b z : Nat} {tx : TX} (C0 : CallFix p m c cX12_claimSeen 5 s args TB RX12) (hr : meth.sig.returnType = (some .int)) (hlk : meth.locks = false) (hT : TxR tx s) {k : Int32 → sSt → Prop} : ∀ (n9 : Nat), ∀ (a3 : Int32) (a4 : Int32) (S : sSt) (H : Heap) (locs : List Loc) (ls : Array Slot) , B_X12_claimSeen_17 n9 a3 a4 S k → RelM D cy b z tx S s H → va_S (gA b 12 z) s.heap H locs → lv_has ls 5 [(0, .ref (b + adM 0 0)), (2, .ref (b + adM 9 0)), (3, .int a3), (4, .int a4)] → W p l e rm_X12_claimSeen s m args below meth c H locs 0 0 (MQ below (PiM D cy b z tx k) args s 0 0 (gA b 12 z)) (F0 m 17 ls []) := by
  intro n9
  induction n9 with
  | zero => intro a3 a4 S H locs ls h; exact h.elim
  | succ n9 ih =>
    intro a3 a4 S H locs ls h hR hS hl
    exact Bbw_X12_claimSeen_17 C0 hr hlk hT ih a3 a4 S H locs ls h hR hS hl
def F_X12_claimSeen (a1 : Int32) (S : sSt) (k : Int32 → sSt → Prop) : Prop := F_X12_keepsAll S (fun S2 => F_X12_claims a1 S2 (fun r3 S4 => F_X12_bringsBack S4 (fun S6 => B_X12_claimSeen_17 fuel r3 0 S6 k)))
set_option maxHeartbeats 4000000 in
set_option maxRecDepth 100000 in
theorem c_X12_claimSeen (l : Launch) {D : va_G} {cy : Nat → ClassId} {b z : Nat} {tx : TX} {a1 : Int32} {S : sSt} {k : Int32 → sSt → Prop} (h : F_X12_claimSeen a1 S k) : Met l yX12_claimSeen (Cond.code yX12_claimSeen cX12_claimSeen 5 (some .int) :: TB) rm_X12_claimSeen (va_Pc [.ref (b + adM 0 0), .int a1, .ref (b + adM 9 0)] (fun U => RelM D cy b z tx S U U.heap ∧ TxR tx U)) (PiM D cy b z tx k) 0 0 (gA b 12 z) := by
  refine Met.ofW (cc := cX12_claimSeen) (maxL := 5) (ret := (some .int)) (by decide) rfl ?_
  intro p e s m args below meth c s₁ B hml hv
  obtain ⟨rfl, hR, hT⟩ := hv
  have C0 : CallFix p m c cX12_claimSeen 5 s _ TB RX12 := ⟨B.exec, B.bytes, hml, findClass_of_methodNamed B.named, fun w hw => atoms_spec B.pre w (List.mem_cons_of_mem _ hw)⟩
  have hr := B.returns
  have hlk := B.notSynchronized
  have hx := C0.1
  have hb := C0.2.1
  have hS : va_S (gA b 12 z) s.heap s.heap [] := va_S.rf
  have hl := lv_entry ([.ref (b + adM 0 0), .int a1, .ref (b + adM 9 0)]) (n := 5) (Nat.le_of_ble_eq_true rfl)
  rw [lg_entry_eq]
  generalize (lg_sl ([.ref (b + adM 0 0), .int a1, .ref (b + adM 9 0)]) ++ List.replicate (5 - (lg_sl ([.ref (b + adM 0 0), .int a1, .ref (b + adM 9 0)])).length) Slot.unset).toArray = ls at hl ⊢
  have hl : lv_has ls 5 [(0, .ref (b + adM 0 0)), (1, .int a1), (2, .ref (b + adM 9 0))] := hl
  show W p l e rm_X12_claimSeen s m _ below meth c s.heap [] 0 0 (MQ below (PiM D cy b z tx k) _ s 0 0 (gA b 12 z)) _
  unfold F_X12_claimSeen at h
  refine lv_aload_n hx hb dX12_claimSeen_0 rfl (lv_at hl 0 rfl) ?_
  refine qM_Vv (As := []) (rest := []) C0 (c_X12_keepsAll l h) (cwV 0 C0.2.2.2.2 (tbV mM8_9_69 ⟨mM8_9_71, mpM8_6_13, mM8_1_11, mM8_9_72⟩) rfl rfl rfl (by decide +kernel) ⟨Nat.le_of_ble_eq_true rfl, Nat.le_of_ble_eq_true rfl⟩) (rcM_0 hR Nat.zero_lt_one) hR hT hS rfl hl.1 rfl (Nat.le_of_ble_eq_true rfl) dX12_claimSeen_1 ⟨Nat.zero_le _, Nat.zero_le _⟩ (fun S2 H locs h hR hS => ?_)
  refine lv_aload_n hx hb dX12_claimSeen_4 rfl (lv_at hl 0 rfl) ?_
  refine lv_iload_n hx hb dX12_claimSeen_5 rfl (lv_at hl 1 rfl) ?_
  refine qM_Vi (As := [.int a1]) (rest := []) C0 (c_X12_claims l h) (cwV 1 C0.2.2.2.2 (tbV mM8_8_155 ⟨mM8_8_157, mpM8_5_2, mM8_1_11, mM8_8_158⟩) rfl rfl rfl (by decide +kernel) ⟨Nat.le_of_ble_eq_true rfl, Nat.le_of_ble_eq_true rfl⟩) (rcM_0 hR Nat.zero_lt_one) hR hT hS rfl hl.1 rfl (Nat.le_of_ble_eq_true rfl) dX12_claimSeen_6 ⟨Nat.zero_le _, Nat.zero_le _⟩ (fun r3 S4 H locs h hR hS => ?_)
  refine lv_istore_n (lv' := [(3, .int r3), (0, .ref (b + adM 0 0)), (1, .int a1), (2, .ref (b + adM 9 0))]) hx hb dX12_claimSeen_9 rfl hl (by decide) rfl (fun ls hl => ?_)
  refine lv_aload_n hx hb dX12_claimSeen_10 rfl (lv_at hl 1 rfl) ?_
  refine qM_Vv (As := []) (rest := []) C0 (c_X12_bringsBack l h) (cwV 0 C0.2.2.2.2 (tbV mM8_9_73 ⟨mM8_9_75, mpM8_6_14, mM8_1_11, mM8_9_76⟩) rfl rfl rfl (by decide +kernel) ⟨Nat.le_of_ble_eq_true rfl, Nat.le_of_ble_eq_true rfl⟩) (rcM_0 hR Nat.zero_lt_one) hR hT hS rfl hl.1 rfl (Nat.le_of_ble_eq_true rfl) dX12_claimSeen_11 ⟨Nat.zero_le _, Nat.zero_le _⟩ (fun S6 H locs h hR hS => ?_)
  refine lv_iconst (v := 0) hx hb dX12_claimSeen_14 (by decide) ?_
  refine lv_istore (lv' := [(4, .int 0), (3, .int r3), (0, .ref (b + adM 0 0)), (1, .int a1), (2, .ref (b + adM 9 0))]) hx hb dX12_claimSeen_15 hl (by decide) rfl (fun ls hl => ?_)
  exact Bw_X12_claimSeen_17 C0 hr hlk hT fuel r3 0 S6 _ _ _ h hR hS (lv_sub hl [2, 4, 1, 0] rfl)

def rm_X12_may : Room := { frames := 7, cells := 0, slots := 0, locals := 154 }
def F_X12_may (a1 : Int32) (a2 : Int32) (S : sSt) (k : Int32 → sSt → Prop) : Prop := F_X12_ownJobFor a1 a2 S (fun r1 S2 => ((r1 = (-1) → k 0 S2) ∧ (¬ r1 = (-1) → F_X12_mayBeClaimed r1 a1 S2 (fun r4 S5 => ((r4 = 0 → k 0 S5) ∧ (¬ r4 = 0 → k 1 S5))))))
set_option maxHeartbeats 4000000 in
set_option maxRecDepth 100000 in
theorem c_X12_may (l : Launch) {D : va_G} {cy : Nat → ClassId} {b z : Nat} {tx : TX} {a1 : Int32} {a2 : Int32} {S : sSt} {k : Int32 → sSt → Prop} (h : F_X12_may a1 a2 S k) : Met l yX12_may (Cond.code yX12_may cX12_may 4 (some .boolean) :: TB) rm_X12_may (va_Pc [.ref (b + adM 0 0), .int a1, .int a2] (fun U => RelM D cy b z tx S U U.heap ∧ TxR tx U)) (PiM D cy b z tx k) 0 0 (gA b 12 z) := by
  refine Met.ofW (cc := cX12_may) (maxL := 4) (ret := (some .boolean)) (by decide) rfl ?_
  intro p e s m args below meth c s₁ B hml hv
  obtain ⟨rfl, hR, hT⟩ := hv
  have C0 : CallFix p m c cX12_may 4 s _ TB RX12 := ⟨B.exec, B.bytes, hml, findClass_of_methodNamed B.named, fun w hw => atoms_spec B.pre w (List.mem_cons_of_mem _ hw)⟩
  have hr := B.returns
  have hlk := B.notSynchronized
  have hx := C0.1
  have hb := C0.2.1
  have hS : va_S (gA b 12 z) s.heap s.heap [] := va_S.rf
  have hl := lv_entry ([.ref (b + adM 0 0), .int a1, .int a2]) (n := 4) (Nat.le_of_ble_eq_true rfl)
  rw [lg_entry_eq]
  generalize (lg_sl ([.ref (b + adM 0 0), .int a1, .int a2]) ++ List.replicate (4 - (lg_sl ([.ref (b + adM 0 0), .int a1, .int a2])).length) Slot.unset).toArray = ls at hl ⊢
  have hl : lv_has ls 4 [(0, .ref (b + adM 0 0)), (1, .int a1), (2, .int a2)] := hl
  show W p l e rm_X12_may s m _ below meth c s.heap [] 0 0 (MQ below (PiM D cy b z tx k) _ s 0 0 (gA b 12 z)) _
  unfold F_X12_may at h
  refine lv_aload_n hx hb dX12_may_0 rfl (lv_at hl 0 rfl) ?_
  refine lv_iload_n hx hb dX12_may_1 rfl (lv_at hl 1 rfl) ?_
  refine lv_iload_n hx hb dX12_may_2 rfl (lv_at hl 2 rfl) ?_
  refine qM_Vi (As := [.int a1, .int a2]) (rest := []) C0 (c_X12_ownJobFor l h) (cwV 2 C0.2.2.2.2 (tbV mM8_8_219 ⟨mM8_8_221, mpM8_6_1, mM8_1_11, mM8_8_222⟩) rfl rfl rfl (by decide +kernel) ⟨Nat.le_of_ble_eq_true rfl, Nat.le_of_ble_eq_true rfl⟩) (rcM_0 hR Nat.zero_lt_one) hR hT hS rfl hl.1 rfl (Nat.le_of_ble_eq_true rfl) dX12_may_3 ⟨Nat.zero_le _, Nat.zero_le _⟩ (fun r1 S2 H locs h hR hS => ?_)
  refine lv_istore_n (lv' := [(3, .int r1), (0, .ref (b + adM 0 0)), (1, .int a1), (2, .int a2)]) hx hb dX12_may_6 rfl hl (by decide) rfl (fun ls hl => ?_)
  refine lv_iload_n hx hb dX12_may_7 rfl (lv_at hl 0 rfl) ?_
  refine lv_iconst (v := (-1)) hx hb dX12_may_8 (by decide) ?_
  refine lv_icmp_eq (tgt := 25) hx hb dX12_may_9 (by decide) (fun c3 => ?_) (fun c3 => ?_)
  · have h := h.1 c3
    refine lv_iconst (v := 0) hx hb dX12_may_25 (by decide) ?_
    exact rtM_z C0 hr hlk hR hS (by decide) h dX12_may_26
  · have h := h.2 c3
    refine lv_aload_n hx hb dX12_may_12 rfl (lv_at hl 1 rfl) ?_
    refine lv_iload_n hx hb dX12_may_13 rfl (lv_at hl 0 rfl) ?_
    refine lv_iload_n hx hb dX12_may_14 rfl (lv_at hl 2 rfl) ?_
    refine qM_Vi (As := [.int r1, .int a1]) (rest := []) C0 (c_X12_mayBeClaimed l h) (cwV 2 C0.2.2.2.2 (tbV mM8_8_163 ⟨mM8_8_165, mpM8_5_4, mM8_1_11, mM8_8_166⟩) rfl rfl rfl (by decide +kernel) ⟨Nat.le_of_ble_eq_true rfl, Nat.le_of_ble_eq_true rfl⟩) (rcM_0 hR Nat.zero_lt_one) hR hT hS rfl hl.1 rfl (Nat.le_of_ble_eq_true rfl) dX12_may_15 ⟨Nat.zero_le _, Nat.zero_le _⟩ (fun r4 S5 H locs h hR hS => ?_)
    refine lv_if_eq (tgt := 25) hx hb dX12_may_18 (by decide) (fun c6 => ?_) (fun c6 => ?_)
    · have h := h.1 c6
      refine lv_iconst (v := 0) hx hb dX12_may_25 (by decide) ?_
      exact rtM_z C0 hr hlk hR hS (by decide) h dX12_may_26
    · have h := h.2 c6
      refine lv_iconst (v := 1) hx hb dX12_may_21 (by decide) ?_
      refine lv_goto (tgt := 26) hx hb dX12_may_22 (by decide) ?_
      exact rtM_z C0 hr hlk hR hS (by decide) h dX12_may_26

def rm_X12_next : Room := { frames := 10, cells := 0, slots := 0, locals := 226 }
def F_X12_next (a1 : Int32) (a2 : Int32) (S : sSt) (k : Int32 → sSt → Prop) : Prop := ∀ S1, S1 = uI S 0 0 0 0 → F_X12_noSession a1 S1 (fun r2 S3 => F_X12_throwsIf r2 1 S3 (fun r4 S5 => ((r4 = 0 → F_X12_claimSeen a1 S5 (fun r7 S8 => F_X12_in a2 0 (r7 - 1) S8 (fun r9 S10 => ((r9 = 0 → k (-1) S10) ∧ (¬ r9 = 0 → ix a2 6 (fun j12 => F_X12_numberOf (S10.1 9 0 j12) S10 (fun r13 S14 => k r13 S14))))))) ∧ (¬ r4 = 0 → k 0 S5))))
set_option maxHeartbeats 4000000 in
set_option maxRecDepth 100000 in
theorem c_X12_next (l : Launch) {D : va_G} {cy : Nat → ClassId} {b z : Nat} {tx : TX} {a1 : Int32} {a2 : Int32} {S : sSt} {k : Int32 → sSt → Prop} (h : F_X12_next a1 a2 S k) : Met l yX12_next (Cond.code yX12_next cX12_next 4 (some .int) :: TB) rm_X12_next (va_Pc [.ref (b + adM 0 0), .int a1, .int a2] (fun U => RelM D cy b z tx S U U.heap ∧ TxR tx U)) (PiM D cy b z tx k) 0 0 (gA b 12 z) := by
  refine Met.ofW (cc := cX12_next) (maxL := 4) (ret := (some .int)) (by decide) rfl ?_
  intro p e s m args below meth c s₁ B hml hv
  obtain ⟨rfl, hR, hT⟩ := hv
  have C0 : CallFix p m c cX12_next 4 s _ TB RX12 := ⟨B.exec, B.bytes, hml, findClass_of_methodNamed B.named, fun w hw => atoms_spec B.pre w (List.mem_cons_of_mem _ hw)⟩
  have hr := B.returns
  have hlk := B.notSynchronized
  have hx := C0.1
  have hb := C0.2.1
  have hS : va_S (gA b 12 z) s.heap s.heap [] := va_S.rf
  have hl := lv_entry ([.ref (b + adM 0 0), .int a1, .int a2]) (n := 4) (Nat.le_of_ble_eq_true rfl)
  rw [lg_entry_eq]
  generalize (lg_sl ([.ref (b + adM 0 0), .int a1, .int a2]) ++ List.replicate (4 - (lg_sl ([.ref (b + adM 0 0), .int a1, .int a2])).length) Slot.unset).toArray = ls at hl ⊢
  have hl : lv_has ls 4 [(0, .ref (b + adM 0 0)), (1, .int a1), (2, .int a2)] := hl
  show W p l e rm_X12_next s m _ below meth c s.heap [] 0 0 (MQ below (PiM D cy b z tx k) _ s 0 0 (gA b 12 z)) _
  unfold F_X12_next at h
  refine lv_aload_n hx hb dX12_next_0 rfl (lv_at hl 0 rfl) ?_
  refine lv_iconst (v := 0) hx hb dX12_next_1 (by decide) ?_
  refine pM_0_0 C0 hR hS Nat.zero_lt_one tbs_wsX120 mM8_7_77 dX12_next_2 (fun S1 eS1 H locs hR hS => ?_)
  have h := h S1 eS1
  refine lv_aload_n hx hb dX12_next_5 rfl (lv_at hl 0 rfl) ?_
  refine lv_aload_n hx hb dX12_next_6 rfl (lv_at hl 0 rfl) ?_
  refine lv_iload_n hx hb dX12_next_7 rfl (lv_at hl 1 rfl) ?_
  refine qM_Vi (As := [.int a1]) (rest := [.ref (b + adM 0 0)]) C0 (c_X12_noSession l h) (cwV 1 C0.2.2.2.2 (tbV mM8_8_33 ⟨mM8_8_35, mpM8_3_14, mM8_1_11, mM8_8_36⟩) rfl rfl rfl (by decide +kernel) ⟨Nat.le_of_ble_eq_true rfl, Nat.le_of_ble_eq_true rfl⟩) (rcM_0 hR Nat.zero_lt_one) hR hT hS rfl hl.1 rfl (Nat.le_of_ble_eq_true rfl) dX12_next_8 ⟨Nat.zero_le _, Nat.zero_le _⟩ (fun r2 S3 H locs h hR hS => ?_)
  refine lv_iconst (v := 1) hx hb dX12_next_11 (by decide) ?_
  refine qM_Vi (As := [.int r2, .int 1]) (rest := []) C0 (c_X12_throwsIf l h) (cwV 2 C0.2.2.2.2 (tbV mM8_8_25 ⟨mM8_8_27, mpM8_3_13, mM8_1_11, mM8_8_28⟩) rfl rfl rfl (by decide +kernel) ⟨Nat.le_of_ble_eq_true rfl, Nat.le_of_ble_eq_true rfl⟩) (rcM_0 hR Nat.zero_lt_one) hR hT hS rfl hl.1 rfl (Nat.le_of_ble_eq_true rfl) dX12_next_12 ⟨Nat.zero_le _, Nat.zero_le _⟩ (fun r4 S5 H locs h hR hS => ?_)
  refine lv_if_eq (tgt := 20) hx hb dX12_next_15 (by decide) (fun c6 => ?_) (fun c6 => ?_)
  · have h := h.1 c6
    refine lv_aload_n hx hb dX12_next_20 rfl (lv_at hl 0 rfl) ?_
    refine lv_iload_n hx hb dX12_next_21 rfl (lv_at hl 1 rfl) ?_
    refine lv_aload_n hx hb dX12_next_22 rfl (lv_at hl 0 rfl) ?_
    refine gM_0_16 C0 hR Nat.zero_lt_one tbs_wsX120 mM8_7_93 dX12_next_23 ?_
    refine qM_Vi (As := [.int a1, .ref (b + adM 9 0)]) (rest := []) C0 (c_X12_claimSeen l h) (cwV 2 C0.2.2.2.2 (tbV mM8_9_109 ⟨mM8_9_111, mpM8_7_0, mM8_1_11, mM8_9_112⟩) rfl rfl rfl (by decide +kernel) ⟨Nat.le_of_ble_eq_true rfl, Nat.le_of_ble_eq_true rfl⟩) (rcM_0 hR Nat.zero_lt_one) hR hT hS rfl hl.1 rfl (Nat.le_of_ble_eq_true rfl) dX12_next_26 ⟨Nat.zero_le _, Nat.zero_le _⟩ (fun r7 S8 H locs h hR hS => ?_)
    refine lv_istore_n (lv' := [(3, .int r7), (0, .ref (b + adM 0 0)), (1, .int a1), (2, .int a2)]) hx hb dX12_next_29 rfl hl (by decide) rfl (fun ls hl => ?_)
    refine lv_iload_n hx hb dX12_next_30 rfl (lv_at hl 3 rfl) ?_
    refine lv_iconst (v := 0) hx hb dX12_next_31 (by decide) ?_
    refine lv_iload_n hx hb dX12_next_32 rfl (lv_at hl 0 rfl) ?_
    refine lv_iconst (v := 1) hx hb dX12_next_33 (by decide) ?_
    refine lv_isub hx hb dX12_next_34 ?_
    refine qM_Si (As := [.int a2, .int 0, .int (r7 - 1)]) (rest := []) C0 (c_X12_in l h) (va_cwS 3 C0.2.2.2.2 (tbS mM8_8_37 ⟨mM8_8_38, mM8_1_11, mM8_8_39⟩) rfl rfl rfl (by decide +kernel) ⟨Nat.le_of_ble_eq_true rfl, Nat.le_of_ble_eq_true rfl⟩) hR hT hS rfl hl.1 rfl (Nat.le_of_ble_eq_true rfl) dX12_next_35 ⟨Nat.zero_le _, Nat.zero_le _⟩ (fun r9 S10 H locs h hR hS => ?_)
    refine lv_if_eq (tgt := 54) hx hb dX12_next_38 (by decide) (fun c11 => ?_) (fun c11 => ?_)
    · have h := h.1 c11
      refine lv_iconst (v := (-1)) hx hb dX12_next_54 (by decide) ?_
      exact rtM_i C0 hr hlk hR hS h dX12_next_55
    · have h := h.2 c11
      refine lv_aload_n hx hb dX12_next_41 rfl (lv_at hl 1 rfl) ?_
      refine lv_aload_n hx hb dX12_next_42 rfl (lv_at hl 1 rfl) ?_
      refine gM_0_16 C0 hR Nat.zero_lt_one tbs_wsX120 mM8_7_93 dX12_next_43 ?_
      refine lv_iload_n hx hb dX12_next_46 rfl (lv_at hl 3 rfl) ?_
      obtain ⟨j12, hj12, ej12, h⟩ := h
      refine lM_9 C0 hR Nat.zero_lt_one hj12 ej12 dX12_next_47 ?_
      refine qM_Vi (As := [.int (S10.1 9 0 j12)]) (rest := []) C0 (c_X12_numberOf l h) (cwV 1 C0.2.2.2.2 (tbV mM8_7_202 ⟨mM8_7_204, mpM8_3_3, mM8_1_11, mM8_7_205⟩) rfl rfl rfl (by decide +kernel) ⟨Nat.le_of_ble_eq_true rfl, Nat.le_of_ble_eq_true rfl⟩) (rcM_0 hR Nat.zero_lt_one) hR hT hS rfl hl.1 rfl (Nat.le_of_ble_eq_true rfl) dX12_next_48 ⟨Nat.zero_le _, Nat.zero_le _⟩ (fun r13 S14 H locs h hR hS => ?_)
      refine lv_goto (tgt := 55) hx hb dX12_next_51 (by decide) ?_
      exact rtM_i C0 hr hlk hR hS h dX12_next_55
  · have h := h.2 c6
    refine lv_iconst (v := 0) hx hb dX12_next_18 (by decide) ?_
    exact rtM_i C0 hr hlk hR hS h dX12_next_19

def rm_X12_bar : Room := { frames := 10, cells := 0, slots := 0, locals := 226 }
def Bb_X12_bar_28 (kk28 : Int32 → Int32 → Int32 → Int32 → sSt → Prop) (a1 : Int32) (a3 : Int32) (a4 : Int32) (a5 : Int32) (S : sSt) (k : Int32 → sSt → Prop) : Prop := ((a4 ≤ a5 → F_X12_isOthers a3 a1 S (fun r7 S8 => ((r7 = 0 → F_X12_seen a3 a1 S8 (fun r10 S11 => ix (r10 + 3) 10421 (fun j12 => (((S11.1 1 0 j12) = 0 → ix (r10 + 5) 10421 (fun j14 => (((S11.1 1 0 j14) ≤ (S11.1 1 0 3) → F_X12_hasLesser a3 a1 S11 (fun r16 S17 => ((r16 = 0 → F_X12_isFull a3 a1 S17 (fun r19 S20 => ((r19 = 0 → F_X12_isAsAsked a3 a1 S20 (fun r22 S23 => ((r22 = 0 → k 6 S23) ∧ (¬ r22 = 0 → k 7 S23)))) ∧ (¬ r19 = 0 → k 5 S20)))) ∧ (¬ r16 = 0 → k 4 S17)))) ∧ (¬ (S11.1 1 0 j14) ≤ (S11.1 1 0 3) → k 3 S11)))) ∧ (¬ (S11.1 1 0 j12) = 0 → k 2 S11))))) ∧ (¬ r7 = 0 → k 1 S8)))) ∧ (¬ a4 ≤ a5 → ix a5 6 (fun j25 => ((¬ (S.1 9 0 j25) = a3 → ∀ x27 : Int32, x27 = a5 + 1 → kk28 a1 a3 a4 x27 S) ∧ ((S.1 9 0 j25) = a3 → k 0 S)))))
set_option maxHeartbeats 4000000 in
set_option maxRecDepth 100000 in
theorem Bbw_X12_bar_28 {p : Program} {l : Launch} {e : Env} {s : State} {m : MethodId} {args : Array Value} {below : List Frame} {meth : Method} {c : Code} {D : va_G} {cy : Nat → ClassId} {b z : Nat} {tx : TX} (C0 : CallFix p m c cX12_bar 6 s args TB RX12) (hr : meth.sig.returnType = (some .int)) (hlk : meth.locks = false) (hT : TxR tx s) {k : Int32 → sSt → Prop} {kk28 : Int32 → Int32 → Int32 → Int32 → sSt → Prop} (ih28 : ∀ (a1 : Int32) (a3 : Int32) (a4 : Int32) (a5 : Int32) (S : sSt) (H : Heap) (locs : List Loc) (ls : Array Slot) , kk28 a1 a3 a4 a5 S → RelM D cy b z tx S s H → va_S (gA b 12 z) s.heap H locs → lv_has ls 6 [(0, .ref (b + adM 0 0)), (1, .int a1), (3, .int a3), (4, .int a4), (5, .int a5)] → W p l e rm_X12_bar s m args below meth c H locs 0 0 (MQ below (PiM D cy b z tx k) args s 0 0 (gA b 12 z)) (F0 m 28 ls [])) : ∀ (a1 : Int32) (a3 : Int32) (a4 : Int32) (a5 : Int32) (S : sSt) (H : Heap) (locs : List Loc) (ls : Array Slot) , Bb_X12_bar_28 kk28 a1 a3 a4 a5 S k → RelM D cy b z tx S s H → va_S (gA b 12 z) s.heap H locs → lv_has ls 6 [(0, .ref (b + adM 0 0)), (1, .int a1), (3, .int a3), (4, .int a4), (5, .int a5)] → W p l e rm_X12_bar s m args below meth c H locs 0 0 (MQ below (PiM D cy b z tx k) args s 0 0 (gA b 12 z)) (F0 m 28 ls []) := by
  intro a1 a3 a4 a5 S H locs ls h hR hS hl
  have hx := C0.1
  have hb := C0.2.1
  unfold Bb_X12_bar_28 at h
  refine lv_iload hx hb dX12_bar_28 (lv_at hl 4 rfl) ?_
  refine lv_iload hx hb dX12_bar_30 (lv_at hl 3 rfl) ?_
  refine lv_icmp_ge (tgt := 54) hx hb dX12_bar_32 (by decide) (fun c6 => ?_) (fun c6 => ?_)
  · have h := h.1 c6
    refine lv_aload_n hx hb dX12_bar_54 rfl (lv_at hl 0 rfl) ?_
    refine lv_iload_n hx hb dX12_bar_55 rfl (lv_at hl 2 rfl) ?_
    refine lv_iload_n hx hb dX12_bar_56 rfl (lv_at hl 1 rfl) ?_
    refine qM_Vi (As := [.int a3, .int a1]) (rest := []) C0 (c_X12_isOthers l h) (cwV 2 C0.2.2.2.2 (tbV mM8_8_175 ⟨mM8_8_177, mpM8_5_7, mM8_1_11, mM8_8_178⟩) rfl rfl rfl (by decide +kernel) ⟨Nat.le_of_ble_eq_true rfl, Nat.le_of_ble_eq_true rfl⟩) (rcM_0 hR Nat.zero_lt_one) hR hT hS rfl hl.1 rfl (Nat.le_of_ble_eq_true rfl) dX12_bar_57 ⟨Nat.zero_le _, Nat.zero_le _⟩ (fun r7 S8 H locs h hR hS => ?_)
    refine lv_if_eq (tgt := 65) hx hb dX12_bar_60 (by decide) (fun c9 => ?_) (fun c9 => ?_)
    · have h := h.1 c9
      refine lv_aload_n hx hb dX12_bar_65 rfl (lv_at hl 0 rfl) ?_
      refine lv_iload_n hx hb dX12_bar_66 rfl (lv_at hl 2 rfl) ?_
      refine lv_iload_n hx hb dX12_bar_67 rfl (lv_at hl 1 rfl) ?_
      refine qM_Vi (As := [.int a3, .int a1]) (rest := []) C0 (c_X12_seen l h) (cwV 2 C0.2.2.2.2 (tbV mM8_8_167 ⟨mM8_8_169, mpM8_5_5, mM8_1_11, mM8_8_170⟩) rfl rfl rfl (by decide +kernel) ⟨Nat.le_of_ble_eq_true rfl, Nat.le_of_ble_eq_true rfl⟩) (rcM_0 hR Nat.zero_lt_one) hR hT hS rfl hl.1 rfl (Nat.le_of_ble_eq_true rfl) dX12_bar_68 ⟨Nat.zero_le _, Nat.zero_le _⟩ (fun r10 S11 H locs h hR hS => ?_)
      refine lv_istore (lv' := [(5, .int r10), (0, .ref (b + adM 0 0)), (1, .int a1), (3, .int a3), (4, .int a4)]) hx hb dX12_bar_71 hl (by decide) rfl (fun ls hl => ?_)
      refine lv_aload_n hx hb dX12_bar_73 rfl (lv_at hl 1 rfl) ?_
      refine gM_0_2 C0 hR Nat.zero_lt_one tbs_wsX120 mM8_7_79 dX12_bar_74 ?_
      refine lv_iload hx hb dX12_bar_77 (lv_at hl 0 rfl) ?_
      refine lv_iconst (v := 3) hx hb dX12_bar_79 (by decide) ?_
      refine lv_iadd hx hb dX12_bar_80 ?_
      obtain ⟨j12, hj12, ej12, h⟩ := h
      refine lM_1 C0 hR Nat.zero_lt_one hj12 ej12 dX12_bar_81 ?_
      refine lv_if_eq (tgt := 87) hx hb dX12_bar_82 (by decide) (fun c13 => ?_) (fun c13 => ?_)
      · have h := h.1 c13
        refine lv_aload_n hx hb dX12_bar_87 rfl (lv_at hl 1 rfl) ?_
        refine gM_0_2 C0 hR Nat.zero_lt_one tbs_wsX120 mM8_7_79 dX12_bar_88 ?_
        refine lv_iload hx hb dX12_bar_91 (lv_at hl 0 rfl) ?_
        refine lv_iconst (v := 5) hx hb dX12_bar_93 (by decide) ?_
        refine lv_iadd hx hb dX12_bar_94 ?_
        obtain ⟨j14, hj14, ej14, h⟩ := h
        refine lM_1 C0 hR Nat.zero_lt_one hj14 ej14 dX12_bar_95 ?_
        refine lv_aload_n hx hb dX12_bar_96 rfl (lv_at hl 1 rfl) ?_
        refine gM_0_2 C0 hR Nat.zero_lt_one tbs_wsX120 mM8_7_79 dX12_bar_97 ?_
        refine lv_iconst (v := 3) hx hb dX12_bar_100 (by decide) ?_
        refine lM_1 C0 hR Nat.zero_lt_one (by decide) rfl dX12_bar_101 ?_
        refine lv_icmp_le (tgt := 107) hx hb dX12_bar_102 (by decide) (fun c15 => ?_) (fun c15 => ?_)
        · have h := h.1 c15
          refine lv_aload_n hx hb dX12_bar_107 rfl (lv_at hl 1 rfl) ?_
          refine lv_iload_n hx hb dX12_bar_108 rfl (lv_at hl 3 rfl) ?_
          refine lv_iload_n hx hb dX12_bar_109 rfl (lv_at hl 2 rfl) ?_
          refine qM_Vi (As := [.int a3, .int a1]) (rest := []) C0 (c_X12_hasLesser l h) (cwV 2 C0.2.2.2.2 (tbV mM8_8_179 ⟨mM8_8_181, mpM8_5_8, mM8_1_11, mM8_8_182⟩) rfl rfl rfl (by decide +kernel) ⟨Nat.le_of_ble_eq_true rfl, Nat.le_of_ble_eq_true rfl⟩) (rcM_0 hR Nat.zero_lt_one) hR hT hS rfl hl.1 rfl (Nat.le_of_ble_eq_true rfl) dX12_bar_110 ⟨Nat.zero_le _, Nat.zero_le _⟩ (fun r16 S17 H locs h hR hS => ?_)
          refine lv_if_eq (tgt := 118) hx hb dX12_bar_113 (by decide) (fun c18 => ?_) (fun c18 => ?_)
          · have h := h.1 c18
            refine lv_aload_n hx hb dX12_bar_118 rfl (lv_at hl 1 rfl) ?_
            refine lv_iload_n hx hb dX12_bar_119 rfl (lv_at hl 3 rfl) ?_
            refine lv_iload_n hx hb dX12_bar_120 rfl (lv_at hl 2 rfl) ?_
            refine qM_Vi (As := [.int a3, .int a1]) (rest := []) C0 (c_X12_isFull l h) (cwV 2 C0.2.2.2.2 (tbV mM8_8_191 ⟨mM8_8_193, mpM8_5_11, mM8_1_11, mM8_8_194⟩) rfl rfl rfl (by decide +kernel) ⟨Nat.le_of_ble_eq_true rfl, Nat.le_of_ble_eq_true rfl⟩) (rcM_0 hR Nat.zero_lt_one) hR hT hS rfl hl.1 rfl (Nat.le_of_ble_eq_true rfl) dX12_bar_121 ⟨Nat.zero_le _, Nat.zero_le _⟩ (fun r19 S20 H locs h hR hS => ?_)
            refine lv_if_eq (tgt := 129) hx hb dX12_bar_124 (by decide) (fun c21 => ?_) (fun c21 => ?_)
            · have h := h.1 c21
              refine lv_aload_n hx hb dX12_bar_129 rfl (lv_at hl 1 rfl) ?_
              refine lv_iload_n hx hb dX12_bar_130 rfl (lv_at hl 3 rfl) ?_
              refine lv_iload_n hx hb dX12_bar_131 rfl (lv_at hl 2 rfl) ?_
              refine qM_Vi (As := [.int a3, .int a1]) (rest := []) C0 (c_X12_isAsAsked l h) (cwV 2 C0.2.2.2.2 (tbV mM8_8_195 ⟨mM8_8_197, mpM8_5_12, mM8_1_11, mM8_8_198⟩) rfl rfl rfl (by decide +kernel) ⟨Nat.le_of_ble_eq_true rfl, Nat.le_of_ble_eq_true rfl⟩) (rcM_0 hR Nat.zero_lt_one) hR hT hS rfl hl.1 rfl (Nat.le_of_ble_eq_true rfl) dX12_bar_132 ⟨Nat.zero_le _, Nat.zero_le _⟩ (fun r22 S23 H locs h hR hS => ?_)
              refine lv_if_eq (tgt := 143) hx hb dX12_bar_135 (by decide) (fun c24 => ?_) (fun c24 => ?_)
              · have h := h.1 c24
                refine lv_bipush (v := 6) hx hb dX12_bar_143 (by decide) ?_
                exact rtM_i C0 hr hlk hR hS h dX12_bar_145
              · have h := h.2 c24
                refine lv_bipush (v := 7) hx hb dX12_bar_138 (by decide) ?_
                refine lv_goto (tgt := 145) hx hb dX12_bar_140 (by decide) ?_
                exact rtM_i C0 hr hlk hR hS h dX12_bar_145
            · have h := h.2 c21
              refine lv_iconst (v := 5) hx hb dX12_bar_127 (by decide) ?_
              exact rtM_i C0 hr hlk hR hS h dX12_bar_128
          · have h := h.2 c18
            refine lv_iconst (v := 4) hx hb dX12_bar_116 (by decide) ?_
            exact rtM_i C0 hr hlk hR hS h dX12_bar_117
        · have h := h.2 c15
          refine lv_iconst (v := 3) hx hb dX12_bar_105 (by decide) ?_
          exact rtM_i C0 hr hlk hR hS h dX12_bar_106
      · have h := h.2 c13
        refine lv_iconst (v := 2) hx hb dX12_bar_85 (by decide) ?_
        exact rtM_i C0 hr hlk hR hS h dX12_bar_86
    · have h := h.2 c9
      refine lv_iconst (v := 1) hx hb dX12_bar_63 (by decide) ?_
      exact rtM_i C0 hr hlk hR hS h dX12_bar_64
  · have h := h.2 c6
    refine lv_aload_n hx hb dX12_bar_35 rfl (lv_at hl 0 rfl) ?_
    refine gM_0_16 C0 hR Nat.zero_lt_one tbs_wsX120 mM8_7_93 dX12_bar_36 ?_
    refine lv_iload hx hb dX12_bar_39 (lv_at hl 4 rfl) ?_
    obtain ⟨j25, hj25, ej25, h⟩ := h
    refine lM_9 C0 hR Nat.zero_lt_one hj25 ej25 dX12_bar_41 ?_
    refine lv_iload_n hx hb dX12_bar_42 rfl (lv_at hl 2 rfl) ?_
    refine lv_icmp_ne (tgt := 48) hx hb dX12_bar_43 (by decide) (fun c26 => ?_) (fun c26 => ?_)
    · have h := h.1 c26
      obtain ⟨x27, ex27⟩ : ∃ x27 : Int32, x27 = a5 + 1 := ⟨_, rfl⟩
      have h := h x27 ex27
      refine w_iinc (v0 := 1) (lv' := [(5, .int x27), (0, .ref (b + adM 0 0)), (1, .int a1), (3, .int a3), (4, .int a4)]) C0 dX12_bar_48 hl (k := 4) rfl (by decide) (by decide) x27 ex27 rfl (fun ls hl => ?_)
      refine lv_goto (tgt := 28) hx hb dX12_bar_51 (by decide) ?_
      exact ih28 a1 a3 a4 x27 S _ _ _  h hR hS (lv_sub hl [1, 2, 3, 4, 0] rfl)
    · have h := h.2 c26
      refine lv_iconst (v := 0) hx hb dX12_bar_46 (by decide) ?_
      exact rtM_i C0 hr hlk hR hS h dX12_bar_47
def B_X12_bar_28 (n9 : Nat) (a1 : Int32) (a3 : Int32) (a4 : Int32) (a5 : Int32) (S : sSt) (k : Int32 → sSt → Prop) : Prop := (Nat.rec (motive := fun _ => Int32 → Int32 → Int32 → Int32 → sSt → Prop) (fun _ _ _ _ _ => False) (fun _ r9 => fun a1 a3 a4 a5 S => Bb_X12_bar_28 r9 a1 a3 a4 a5 S k) n9 : Int32 → Int32 → Int32 → Int32 → sSt → Prop) a1 a3 a4 a5 S
theorem B_X12_bar_28_s (n9 : Nat) (a1 : Int32) (a3 : Int32) (a4 : Int32) (a5 : Int32) (S : sSt) (k : Int32 → sSt → Prop) : B_X12_bar_28 (n9 + 1) a1 a3 a4 a5 S k = Bb_X12_bar_28 (fun a1 a3 a4 a5 S => B_X12_bar_28 n9 a1 a3 a4 a5 S k) a1 a3 a4 a5 S k := rfl
set_option maxHeartbeats 4000000 in
set_option maxRecDepth 100000 in
theorem Bw_X12_bar_28 {p : Program} {l : Launch} {e : Env} {s : State} {m : MethodId} {args : Array Value} {below : List Frame} {meth : Method} {c : Code} {D : va_G} {cy : Nat → ClassId} {b z : Nat} {tx : TX} (C0 : CallFix p m c cX12_bar 6 s args TB RX12) (hr : meth.sig.returnType = (some .int)) (hlk : meth.locks = false) (hT : TxR tx s) {k : Int32 → sSt → Prop} : ∀ (n9 : Nat), ∀ (a1 : Int32) (a3 : Int32) (a4 : Int32) (a5 : Int32) (S : sSt) (H : Heap) (locs : List Loc) (ls : Array Slot) , B_X12_bar_28 n9 a1 a3 a4 a5 S k → RelM D cy b z tx S s H → va_S (gA b 12 z) s.heap H locs → lv_has ls 6 [(0, .ref (b + adM 0 0)), (1, .int a1), (3, .int a3), (4, .int a4), (5, .int a5)] → W p l e rm_X12_bar s m args below meth c H locs 0 0 (MQ below (PiM D cy b z tx k) args s 0 0 (gA b 12 z)) (F0 m 28 ls []) := by
  intro n9
  induction n9 with
  | zero => intro a1 a3 a4 a5 S H locs ls h; exact h.elim
  | succ n9 ih =>
    intro a1 a3 a4 a5 S H locs ls h hR hS hl
    exact Bbw_X12_bar_28 C0 hr hlk hT ih a1 a3 a4 a5 S H locs ls h hR hS hl
def F_X12_bar (a1 : Int32) (a2 : Int32) (S : sSt) (k : Int32 → sSt → Prop) : Prop := F_X12_ownJobFor a1 a2 S (fun r1 S2 => ((¬ r1 = (-1) → F_X12_claimSeen a1 S2 (fun r4 S5 => B_X12_bar_28 fuel a1 r1 r4 0 S5 k)) ∧ (r1 = (-1) → k 0 S2)))
set_option maxHeartbeats 4000000 in
set_option maxRecDepth 100000 in
theorem c_X12_bar (l : Launch) {D : va_G} {cy : Nat → ClassId} {b z : Nat} {tx : TX} {a1 : Int32} {a2 : Int32} {S : sSt} {k : Int32 → sSt → Prop} (h : F_X12_bar a1 a2 S k) : Met l yX12_bar (Cond.code yX12_bar cX12_bar 6 (some .int) :: TB) rm_X12_bar (va_Pc [.ref (b + adM 0 0), .int a1, .int a2] (fun U => RelM D cy b z tx S U U.heap ∧ TxR tx U)) (PiM D cy b z tx k) 0 0 (gA b 12 z) := by
  refine Met.ofW (cc := cX12_bar) (maxL := 6) (ret := (some .int)) (by decide) rfl ?_
  intro p e s m args below meth c s₁ B hml hv
  obtain ⟨rfl, hR, hT⟩ := hv
  have C0 : CallFix p m c cX12_bar 6 s _ TB RX12 := ⟨B.exec, B.bytes, hml, findClass_of_methodNamed B.named, fun w hw => atoms_spec B.pre w (List.mem_cons_of_mem _ hw)⟩
  have hr := B.returns
  have hlk := B.notSynchronized
  have hx := C0.1
  have hb := C0.2.1
  have hS : va_S (gA b 12 z) s.heap s.heap [] := va_S.rf
  have hl := lv_entry ([.ref (b + adM 0 0), .int a1, .int a2]) (n := 6) (Nat.le_of_ble_eq_true rfl)
  rw [lg_entry_eq]
  generalize (lg_sl ([.ref (b + adM 0 0), .int a1, .int a2]) ++ List.replicate (6 - (lg_sl ([.ref (b + adM 0 0), .int a1, .int a2])).length) Slot.unset).toArray = ls at hl ⊢
  have hl : lv_has ls 6 [(0, .ref (b + adM 0 0)), (1, .int a1), (2, .int a2)] := hl
  show W p l e rm_X12_bar s m _ below meth c s.heap [] 0 0 (MQ below (PiM D cy b z tx k) _ s 0 0 (gA b 12 z)) _
  unfold F_X12_bar at h
  refine lv_aload_n hx hb dX12_bar_0 rfl (lv_at hl 0 rfl) ?_
  refine lv_iload_n hx hb dX12_bar_1 rfl (lv_at hl 1 rfl) ?_
  refine lv_iload_n hx hb dX12_bar_2 rfl (lv_at hl 2 rfl) ?_
  refine qM_Vi (As := [.int a1, .int a2]) (rest := []) C0 (c_X12_ownJobFor l h) (cwV 2 C0.2.2.2.2 (tbV mM8_8_219 ⟨mM8_8_221, mpM8_6_1, mM8_1_11, mM8_8_222⟩) rfl rfl rfl (by decide +kernel) ⟨Nat.le_of_ble_eq_true rfl, Nat.le_of_ble_eq_true rfl⟩) (rcM_0 hR Nat.zero_lt_one) hR hT hS rfl hl.1 rfl (Nat.le_of_ble_eq_true rfl) dX12_bar_3 ⟨Nat.zero_le _, Nat.zero_le _⟩ (fun r1 S2 H locs h hR hS => ?_)
  refine lv_istore_n (lv' := [(3, .int r1), (0, .ref (b + adM 0 0)), (1, .int a1), (2, .int a2)]) hx hb dX12_bar_6 rfl hl (by decide) rfl (fun ls hl => ?_)
  refine lv_iload_n hx hb dX12_bar_7 rfl (lv_at hl 0 rfl) ?_
  refine lv_iconst (v := (-1)) hx hb dX12_bar_8 (by decide) ?_
  refine lv_icmp_ne (tgt := 14) hx hb dX12_bar_9 (by decide) (fun c3 => ?_) (fun c3 => ?_)
  · have h := h.1 c3
    refine lv_aload_n hx hb dX12_bar_14 rfl (lv_at hl 1 rfl) ?_
    refine lv_iload_n hx hb dX12_bar_15 rfl (lv_at hl 2 rfl) ?_
    refine lv_aload_n hx hb dX12_bar_16 rfl (lv_at hl 1 rfl) ?_
    refine gM_0_16 C0 hR Nat.zero_lt_one tbs_wsX120 mM8_7_93 dX12_bar_17 ?_
    refine qM_Vi (As := [.int a1, .ref (b + adM 9 0)]) (rest := []) C0 (c_X12_claimSeen l h) (cwV 2 C0.2.2.2.2 (tbV mM8_9_109 ⟨mM8_9_111, mpM8_7_0, mM8_1_11, mM8_9_112⟩) rfl rfl rfl (by decide +kernel) ⟨Nat.le_of_ble_eq_true rfl, Nat.le_of_ble_eq_true rfl⟩) (rcM_0 hR Nat.zero_lt_one) hR hT hS rfl hl.1 rfl (Nat.le_of_ble_eq_true rfl) dX12_bar_20 ⟨Nat.zero_le _, Nat.zero_le _⟩ (fun r4 S5 H locs h hR hS => ?_)
    refine lv_istore (lv' := [(4, .int r4), (3, .int r1), (0, .ref (b + adM 0 0)), (1, .int a1), (2, .int a2)]) hx hb dX12_bar_23 hl (by decide) rfl (fun ls hl => ?_)
    refine lv_iconst (v := 0) hx hb dX12_bar_25 (by decide) ?_
    refine lv_istore (lv' := [(5, .int 0), (4, .int r4), (3, .int r1), (0, .ref (b + adM 0 0)), (1, .int a1), (2, .int a2)]) hx hb dX12_bar_26 hl (by decide) rfl (fun ls hl => ?_)
    exact Bw_X12_bar_28 C0 hr hlk hT fuel a1 r1 r4 0 S5 _ _ _ h hR hS (lv_sub hl [3, 4, 2, 1, 0] rfl)
  · have h := h.2 c3
    refine lv_iconst (v := 0) hx hb dX12_bar_12 (by decide) ?_
    exact rtM_i C0 hr hlk hR hS h dX12_bar_13

def rm_X12_claimsIn : Room := { frames := 9, cells := 0, slots := 0, locals := 202 }
def Bb_X12_claimsIn_9 (kk9 : Int32 → Int32 → Int32 → Int32 → sSt → Prop) (a1 : Int32) (a2 : Int32) (a3 : Int32) (a4 : Int32) (S : sSt) (k : sSt → Prop) : Prop := ((a3 ≤ a4 → k S) ∧ (¬ a3 ≤ a4 → ix a4 6 (fun j4 => ix ((24 * a1) + (S.1 8 0 j4)) 48 (fun j5 => ∀ S6, S6 = uI S 10 0 j5 a2 → ∀ x7 : Int32, x7 = a4 + 1 → kk9 a1 a2 a3 x7 S6))))
set_option maxHeartbeats 4000000 in
set_option maxRecDepth 100000 in
theorem Bbw_X12_claimsIn_9 {p : Program} {l : Launch} {e : Env} {s : State} {m : MethodId} {args : Array Value} {below : List Frame} {meth : Method} {c : Code} {D : va_G} {cy : Nat → ClassId} {b z : Nat} {tx : TX} (C0 : CallFix p m c cX12_claimsIn 5 s args TB RX12) (hr : meth.sig.returnType = none) (hlk : meth.locks = false) (hT : TxR tx s) {k : sSt → Prop} {kk9 : Int32 → Int32 → Int32 → Int32 → sSt → Prop} (ih9 : ∀ (a1 : Int32) (a2 : Int32) (a3 : Int32) (a4 : Int32) (S : sSt) (H : Heap) (locs : List Loc) (ls : Array Slot) , kk9 a1 a2 a3 a4 S → RelM D cy b z tx S s H → va_S (gA b 12 z) s.heap H locs → lv_has ls 5 [(0, .ref (b + adM 0 0)), (1, .int a1), (2, .int a2), (3, .int a3), (4, .int a4)] → W p l e rm_X12_claimsIn s m args below meth c H locs 0 0 (MQ below (PvM D cy b z tx k) args s 0 0 (gA b 12 z)) (F0 m 9 ls [])) : ∀ (a1 : Int32) (a2 : Int32) (a3 : Int32) (a4 : Int32) (S : sSt) (H : Heap) (locs : List Loc) (ls : Array Slot) , Bb_X12_claimsIn_9 kk9 a1 a2 a3 a4 S k → RelM D cy b z tx S s H → va_S (gA b 12 z) s.heap H locs → lv_has ls 5 [(0, .ref (b + adM 0 0)), (1, .int a1), (2, .int a2), (3, .int a3), (4, .int a4)] → W p l e rm_X12_claimsIn s m args below meth c H locs 0 0 (MQ below (PvM D cy b z tx k) args s 0 0 (gA b 12 z)) (F0 m 9 ls []) := by
  intro a1 a2 a3 a4 S H locs ls h hR hS hl
  have hx := C0.1
  have hb := C0.2.1
  unfold Bb_X12_claimsIn_9 at h
  refine lv_iload hx hb dX12_claimsIn_9 (lv_at hl 4 rfl) ?_
  refine lv_iload_n hx hb dX12_claimsIn_11 rfl (lv_at hl 3 rfl) ?_
  refine lv_icmp_ge (tgt := 39) hx hb dX12_claimsIn_12 (by decide) (fun c3 => ?_) (fun c3 => ?_)
  · have h := h.1 c3
    exact rtM_v C0 hr hlk hR hS h dX12_claimsIn_39
  · have h := h.2 c3
    refine lv_aload_n hx hb dX12_claimsIn_15 rfl (lv_at hl 0 rfl) ?_
    refine gM_0_17 C0 hR Nat.zero_lt_one tbs_wsX120 mM8_7_94 dX12_claimsIn_16 ?_
    refine lv_bipush (v := 24) hx hb dX12_claimsIn_19 (by decide) ?_
    refine lv_iload_n hx hb dX12_claimsIn_21 rfl (lv_at hl 1 rfl) ?_
    refine lv_imul hx hb dX12_claimsIn_22 ?_
    refine lv_aload_n hx hb dX12_claimsIn_23 rfl (lv_at hl 0 rfl) ?_
    refine gM_0_15 C0 hR Nat.zero_lt_one tbs_wsX120 mM8_7_92 dX12_claimsIn_24 ?_
    refine lv_iload hx hb dX12_claimsIn_27 (lv_at hl 4 rfl) ?_
    obtain ⟨j4, hj4, ej4, h⟩ := h
    refine lM_8 C0 hR Nat.zero_lt_one hj4 ej4 dX12_claimsIn_29 ?_
    refine lv_iadd hx hb dX12_claimsIn_30 ?_
    refine lv_iload_n hx hb dX12_claimsIn_31 rfl (lv_at hl 2 rfl) ?_
    obtain ⟨j5, hj5, ej5, h⟩ := h
    refine sM_10 C0 hR hS Nat.zero_lt_one hj5 ej5 dX12_claimsIn_32 (fun S6 eS6 H locs hR hS => ?_)
    have h := h S6 eS6
    obtain ⟨x7, ex7⟩ : ∃ x7 : Int32, x7 = a4 + 1 := ⟨_, rfl⟩
    have h := h x7 ex7
    refine w_iinc (v0 := 1) (lv' := [(4, .int x7), (0, .ref (b + adM 0 0)), (1, .int a1), (2, .int a2), (3, .int a3)]) C0 dX12_claimsIn_33 hl (k := 4) rfl (by decide) (by decide) x7 ex7 rfl (fun ls hl => ?_)
    refine lv_goto (tgt := 9) hx hb dX12_claimsIn_36 (by decide) ?_
    exact ih9 a1 a2 a3 x7 S6 _ _ _  h hR hS (lv_sub hl [1, 2, 3, 4, 0] rfl)
def B_X12_claimsIn_9 (n9 : Nat) (a1 : Int32) (a2 : Int32) (a3 : Int32) (a4 : Int32) (S : sSt) (k : sSt → Prop) : Prop := (Nat.rec (motive := fun _ => Int32 → Int32 → Int32 → Int32 → sSt → Prop) (fun _ _ _ _ _ => False) (fun _ r9 => fun a1 a2 a3 a4 S => Bb_X12_claimsIn_9 r9 a1 a2 a3 a4 S k) n9 : Int32 → Int32 → Int32 → Int32 → sSt → Prop) a1 a2 a3 a4 S
theorem B_X12_claimsIn_9_s (n9 : Nat) (a1 : Int32) (a2 : Int32) (a3 : Int32) (a4 : Int32) (S : sSt) (k : sSt → Prop) : B_X12_claimsIn_9 (n9 + 1) a1 a2 a3 a4 S k = Bb_X12_claimsIn_9 (fun a1 a2 a3 a4 S => B_X12_claimsIn_9 n9 a1 a2 a3 a4 S k) a1 a2 a3 a4 S k := rfl
set_option maxHeartbeats 4000000 in
set_option maxRecDepth 100000 in
theorem Bw_X12_claimsIn_9 {p : Program} {l : Launch} {e : Env} {s : State} {m : MethodId} {args : Array Value} {below : List Frame} {meth : Method} {c : Code} {D : va_G} {cy : Nat → ClassId} {b z : Nat} {tx : TX} (C0 : CallFix p m c cX12_claimsIn 5 s args TB RX12) (hr : meth.sig.returnType = none) (hlk : meth.locks = false) (hT : TxR tx s) {k : sSt → Prop} : ∀ (n9 : Nat), ∀ (a1 : Int32) (a2 : Int32) (a3 : Int32) (a4 : Int32) (S : sSt) (H : Heap) (locs : List Loc) (ls : Array Slot) , B_X12_claimsIn_9 n9 a1 a2 a3 a4 S k → RelM D cy b z tx S s H → va_S (gA b 12 z) s.heap H locs → lv_has ls 5 [(0, .ref (b + adM 0 0)), (1, .int a1), (2, .int a2), (3, .int a3), (4, .int a4)] → W p l e rm_X12_claimsIn s m args below meth c H locs 0 0 (MQ below (PvM D cy b z tx k) args s 0 0 (gA b 12 z)) (F0 m 9 ls []) := by
  intro n9
  induction n9 with
  | zero => intro a1 a2 a3 a4 S H locs ls h; exact h.elim
  | succ n9 ih =>
    intro a1 a2 a3 a4 S H locs ls h hR hS hl
    exact Bbw_X12_claimsIn_9 C0 hr hlk hT ih a1 a2 a3 a4 S H locs ls h hR hS hl
def F_X12_claimsIn (a1 : Int32) (a2 : Int32) (S : sSt) (k : sSt → Prop) : Prop := F_X12_claims a2 S (fun r1 S2 => B_X12_claimsIn_9 fuel a1 a2 r1 0 S2 k)
set_option maxHeartbeats 4000000 in
set_option maxRecDepth 100000 in
theorem c_X12_claimsIn (l : Launch) {D : va_G} {cy : Nat → ClassId} {b z : Nat} {tx : TX} {a1 : Int32} {a2 : Int32} {S : sSt} {k : sSt → Prop} (h : F_X12_claimsIn a1 a2 S k) : Met l yX12_claimsIn (Cond.code yX12_claimsIn cX12_claimsIn 5 none :: TB) rm_X12_claimsIn (va_Pc [.ref (b + adM 0 0), .int a1, .int a2] (fun U => RelM D cy b z tx S U U.heap ∧ TxR tx U)) (PvM D cy b z tx k) 0 0 (gA b 12 z) := by
  refine Met.ofW (cc := cX12_claimsIn) (maxL := 5) (ret := none) (by decide) rfl ?_
  intro p e s m args below meth c s₁ B hml hv
  obtain ⟨rfl, hR, hT⟩ := hv
  have C0 : CallFix p m c cX12_claimsIn 5 s _ TB RX12 := ⟨B.exec, B.bytes, hml, findClass_of_methodNamed B.named, fun w hw => atoms_spec B.pre w (List.mem_cons_of_mem _ hw)⟩
  have hr := B.returns
  have hlk := B.notSynchronized
  have hx := C0.1
  have hb := C0.2.1
  have hS : va_S (gA b 12 z) s.heap s.heap [] := va_S.rf
  have hl := lv_entry ([.ref (b + adM 0 0), .int a1, .int a2]) (n := 5) (Nat.le_of_ble_eq_true rfl)
  rw [lg_entry_eq]
  generalize (lg_sl ([.ref (b + adM 0 0), .int a1, .int a2]) ++ List.replicate (5 - (lg_sl ([.ref (b + adM 0 0), .int a1, .int a2])).length) Slot.unset).toArray = ls at hl ⊢
  have hl : lv_has ls 5 [(0, .ref (b + adM 0 0)), (1, .int a1), (2, .int a2)] := hl
  show W p l e rm_X12_claimsIn s m _ below meth c s.heap [] 0 0 (MQ below (PvM D cy b z tx k) _ s 0 0 (gA b 12 z)) _
  unfold F_X12_claimsIn at h
  refine lv_aload_n hx hb dX12_claimsIn_0 rfl (lv_at hl 0 rfl) ?_
  refine lv_iload_n hx hb dX12_claimsIn_1 rfl (lv_at hl 2 rfl) ?_
  refine qM_Vi (As := [.int a2]) (rest := []) C0 (c_X12_claims l h) (cwV 1 C0.2.2.2.2 (tbV mM8_8_155 ⟨mM8_8_157, mpM8_5_2, mM8_1_11, mM8_8_158⟩) rfl rfl rfl (by decide +kernel) ⟨Nat.le_of_ble_eq_true rfl, Nat.le_of_ble_eq_true rfl⟩) (rcM_0 hR Nat.zero_lt_one) hR hT hS rfl hl.1 rfl (Nat.le_of_ble_eq_true rfl) dX12_claimsIn_2 ⟨Nat.zero_le _, Nat.zero_le _⟩ (fun r1 S2 H locs h hR hS => ?_)
  refine lv_istore_n (lv' := [(3, .int r1), (0, .ref (b + adM 0 0)), (1, .int a1), (2, .int a2)]) hx hb dX12_claimsIn_5 rfl hl (by decide) rfl (fun ls hl => ?_)
  refine lv_iconst (v := 0) hx hb dX12_claimsIn_6 (by decide) ?_
  refine lv_istore (lv' := [(4, .int 0), (3, .int r1), (0, .ref (b + adM 0 0)), (1, .int a1), (2, .int a2)]) hx hb dX12_claimsIn_7 hl (by decide) rfl (fun ls hl => ?_)
  exact Bw_X12_claimsIn_9 C0 hr hlk hT fuel a1 a2 r1 0 S2 _ _ _ h hR hS (lv_sub hl [2, 3, 4, 1, 0] rfl)
