theorem mC10_5_222 : Cond.methodLink RX11 192 yX11_needGroup ∈ TB := tbT_5 _ (List.mem_of_getElem? (i := 222) rfl) rfl
theorem mC10_5_225 : Cond.code yX11_needGroup cX11_needGroup 2 none ∈ TB := tbT_5 _ (List.mem_of_getElem? (i := 225) rfl) rfl
theorem mC10_5_224 : Cond.instanceMethod yX11_needGroup ∈ TB := tbT_5 _ (List.mem_of_getElem? (i := 224) rfl) rfl
theorem mpC10_2_0 : Cond.selects RX11 yX11_needGroup yX11_needGroup ∈ TB := tbP_2 (yX11_needGroup, 8) (List.mem_of_getElem? (i := 0) rfl)
theorem mC10_1_1 : Cond.initialized RX11 ∈ TB := tbT_1 _ (List.mem_of_getElem? (i := 1) rfl) rfl
theorem mC10_2_213 : Cond.fieldLink RX11 37 "ClaimTable" "live" "LClaimTable$Table;" ∈ TB := tbT_2 _ (List.mem_of_getElem? (i := 213) rfl) rfl
theorem mC10_6_237 : Cond.methodLink RX11 347 yX6_overtakenPairs ∈ TB := tbT_6 _ (List.mem_of_getElem? (i := 237) rfl) rfl
theorem mC10_7_0 : Cond.code yX6_overtakenPairs cX6_overtakenPairs 6 (some .int) ∈ TB := tbT_7 _ (List.mem_of_getElem? (i := 0) rfl) rfl
theorem mC10_6_238 : Cond.instanceMethod yX6_overtakenPairs ∈ TB := tbT_6 _ (List.mem_of_getElem? (i := 238) rfl) rfl
theorem mC10_6_239 : Cond.selects RX6 yX6_overtakenPairs yX6_overtakenPairs ∈ TB := tbT_6 _ (List.mem_of_getElem? (i := 239) rfl) rfl
theorem mC10_1_5 : Cond.initialized RX6 ∈ TB := tbT_1 _ (List.mem_of_getElem? (i := 5) rfl) rfl
theorem mC10_1_174 : Cond.fieldLink RX9 21 "ClaimTable$Version" "causeCount" "I" ∈ TB := tbT_1 _ (List.mem_of_getElem? (i := 174) rfl) rfl
theorem mC10_5_173 : Cond.methodLink RX9 37 Lib.Math.min.name ∈ TB := tbT_5 _ (List.mem_of_getElem? (i := 173) rfl) rfl
theorem mC10_5_67 : Cond.static Lib.Math.min.name ∈ TB := tbT_5 _ (List.mem_of_getElem? (i := 67) rfl) rfl
theorem mC10_1_25 : Cond.initialized "java/lang/Math" ∈ TB := tbT_1 _ (List.mem_of_getElem? (i := 25) rfl) rfl
theorem mC10_5_68 : Cond.code Lib.Math.min.name Lib.Math.min.code 2 (some .int) ∈ TB := tbT_5 _ (List.mem_of_getElem? (i := 68) rfl) rfl
theorem mC10_7_28 : Cond.methodLink RX9 43 yX9_causeAt ∈ TB := tbT_7 _ (List.mem_of_getElem? (i := 28) rfl) rfl
theorem mC10_6_71 : Cond.code yX9_causeAt cX9_causeAt 2 (some .int) ∈ TB := tbT_6 _ (List.mem_of_getElem? (i := 71) rfl) rfl
theorem mC10_6_69 : Cond.instanceMethod yX9_causeAt ∈ TB := tbT_6 _ (List.mem_of_getElem? (i := 69) rfl) rfl
theorem mC10_6_70 : Cond.selects RX9 yX9_causeAt yX9_causeAt ∈ TB := tbT_6 _ (List.mem_of_getElem? (i := 70) rfl) rfl
theorem mC10_1_8 : Cond.initialized RX9 ∈ TB := tbT_1 _ (List.mem_of_getElem? (i := 8) rfl) rfl
theorem mC10_5_134 : Cond.methodLink RX11 168 yX11_needJob ∈ TB := tbT_5 _ (List.mem_of_getElem? (i := 134) rfl) rfl
theorem mC10_5_137 : Cond.code yX11_needJob cX11_needJob 4 (some (.object "ClaimTable$Job")) ∈ TB := tbT_5 _ (List.mem_of_getElem? (i := 137) rfl) rfl
theorem mC10_5_136 : Cond.instanceMethod yX11_needJob ∈ TB := tbT_5 _ (List.mem_of_getElem? (i := 136) rfl) rfl
theorem mpC10_1_12 : Cond.selects RX11 yX11_needJob yX11_needJob ∈ TB := tbP_1 (yX11_needJob, 8) (List.mem_of_getElem? (i := 12) rfl)
theorem mC10_1_214 : Cond.fieldLinkNest RX11 350 "ClaimTable$Job" "base" "LClaimTable$Version;" "ClaimTable" ∈ NB := nbT_1 _ (List.mem_of_getElem? (i := 214) rfl) rfl
theorem mC10_7_24 : Cond.methodLink RX11 354 yX9_causesLike ∈ TB := tbT_7 _ (List.mem_of_getElem? (i := 24) rfl) rfl
theorem mC10_7_27 : Cond.code yX9_causesLike cX9_causesLike 4 (some .int) ∈ TB := tbT_7 _ (List.mem_of_getElem? (i := 27) rfl) rfl
theorem mC10_7_25 : Cond.instanceMethod yX9_causesLike ∈ TB := tbT_7 _ (List.mem_of_getElem? (i := 25) rfl) rfl
theorem mC10_7_26 : Cond.selects RX9 yX9_causesLike yX9_causesLike ∈ TB := tbT_7 _ (List.mem_of_getElem? (i := 26) rfl) rfl
theorem mC10_4_45 : Cond.classLink RX11 68 "java/lang/IllegalArgumentException" ∈ TB := tbT_4 _ (List.mem_of_getElem? (i := 45) rfl) rfl
theorem mC10_1_21 : Cond.initialized "java/lang/IllegalArgumentException" ∈ TB := tbT_1 _ (List.mem_of_getElem? (i := 21) rfl) rfl
theorem mC10_2_146 : Cond.fieldLink RX6 46 "ClaimTable$Table" "size" "I" ∈ TB := tbT_2 _ (List.mem_of_getElem? (i := 146) rfl) rfl
theorem mC10_2_126 : Cond.fieldLink RX6 11 "ClaimTable$Table" "jobs" "[LClaimTable$Job;" ∈ TB := tbT_2 _ (List.mem_of_getElem? (i := 126) rfl) rfl
theorem mC10_1_212 : Cond.fieldLinkNest RX6 124 "ClaimTable$Job" "base" "LClaimTable$Version;" "ClaimTable" ∈ NB := nbT_1 _ (List.mem_of_getElem? (i := 212) rfl) rfl
theorem mC10_1_225 : Cond.fieldLinkNest RX6 117 "ClaimTable$Job" "stored" "Z" "ClaimTable" ∈ NB := nbT_1 _ (List.mem_of_getElem? (i := 225) rfl) rfl
theorem mC10_1_176 : Cond.fieldLinkNest RX6 265 "ClaimTable$Version" "causeCount" "I" "ClaimTable" ∈ NB := nbT_1 _ (List.mem_of_getElem? (i := 176) rfl) rfl
theorem mC10_7_40 : Cond.methodLink RX6 268 yX9_causeAt ∈ TB := tbT_7 _ (List.mem_of_getElem? (i := 40) rfl) rfl
theorem mC10_1_161 : Cond.fieldLinkNest RX6 141 "ClaimTable$Version" "state" "I" "ClaimTable" ∈ NB := nbT_1 _ (List.mem_of_getElem? (i := 161) rfl) rfl
theorem mC10_7_36 : Cond.methodLink RX11 358 yX6_setAsideFrom ∈ TB := tbT_7 _ (List.mem_of_getElem? (i := 36) rfl) rfl
theorem mC10_7_39 : Cond.code yX6_setAsideFrom cX6_setAsideFrom 6 (some .int) ∈ TB := tbT_7 _ (List.mem_of_getElem? (i := 39) rfl) rfl
theorem mC10_7_37 : Cond.instanceMethod yX6_setAsideFrom ∈ TB := tbT_7 _ (List.mem_of_getElem? (i := 37) rfl) rfl
theorem mC10_7_38 : Cond.selects RX6 yX6_setAsideFrom yX6_setAsideFrom ∈ TB := tbT_7 _ (List.mem_of_getElem? (i := 38) rfl) rfl
theorem mC10_5_199 : Cond.methodLink RX6 210 yX6_isLate ∈ TB := tbT_5 _ (List.mem_of_getElem? (i := 199) rfl) rfl
theorem mC10_5_202 : Cond.code yX6_isLate cX6_isLate 2 (some .boolean) ∈ TB := tbT_5 _ (List.mem_of_getElem? (i := 202) rfl) rfl
theorem mC10_5_201 : Cond.instanceMethod yX6_isLate ∈ TB := tbT_5 _ (List.mem_of_getElem? (i := 201) rfl) rfl
theorem mpC10_1_15 : Cond.selects RX6 yX6_isLate yX6_isLate ∈ TB := tbP_1 (yX6_isLate, 16) (List.mem_of_getElem? (i := 15) rfl)
theorem mC10_1_168 : Cond.fieldLinkNest RX6 192 "ClaimTable$Version" "due" "I" "ClaimTable" ∈ NB := nbT_1 _ (List.mem_of_getElem? (i := 168) rfl) rfl
theorem mC10_2_160 : Cond.fieldLink RX6 78 "ClaimTable$Table" "mono" "I" ∈ TB := tbT_2 _ (List.mem_of_getElem? (i := 160) rfl) rfl
theorem mC10_1_221 : Cond.fieldLinkNest RX6 121 "ClaimTable$Job" "locker" "I" "ClaimTable" ∈ NB := nbT_1 _ (List.mem_of_getElem? (i := 221) rfl) rfl
theorem mC10_7_52 : Cond.methodLink RX6 271 yX6_isOfKind ∈ TB := tbT_7 _ (List.mem_of_getElem? (i := 52) rfl) rfl
theorem mC10_7_55 : Cond.code yX6_isOfKind cX6_isOfKind 3 (some .boolean) ∈ TB := tbT_7 _ (List.mem_of_getElem? (i := 55) rfl) rfl
theorem mC10_7_54 : Cond.instanceMethod yX6_isOfKind ∈ TB := tbT_7 _ (List.mem_of_getElem? (i := 54) rfl) rfl
theorem mpC10_2_9 : Cond.selects RX6 yX6_isOfKind yX6_isOfKind ∈ TB := tbP_2 (yX6_isOfKind, 16) (List.mem_of_getElem? (i := 9) rfl)
theorem mC10_1_230 : Cond.fieldLinkNest RX6 96 "ClaimTable$Job" "number" "I" "ClaimTable" ∈ NB := nbT_1 _ (List.mem_of_getElem? (i := 230) rfl) rfl
theorem mC10_6_46 : Cond.classLink RX11 247 "java/util/NoSuchElementException" ∈ TB := tbT_6 _ (List.mem_of_getElem? (i := 46) rfl) rfl
theorem mC10_1_26 : Cond.initialized "java/util/NoSuchElementException" ∈ TB := tbT_1 _ (List.mem_of_getElem? (i := 26) rfl) rfl
theorem mC10_7_48 : Cond.methodLink RX11 361 yX6_numberFound ∈ TB := tbT_7 _ (List.mem_of_getElem? (i := 48) rfl) rfl
theorem mC10_7_51 : Cond.code yX6_numberFound cX6_numberFound 5 (some .int) ∈ TB := tbT_7 _ (List.mem_of_getElem? (i := 51) rfl) rfl
theorem mC10_7_49 : Cond.instanceMethod yX6_numberFound ∈ TB := tbT_7 _ (List.mem_of_getElem? (i := 49) rfl) rfl
theorem mC10_7_50 : Cond.selects RX6 yX6_numberFound yX6_numberFound ∈ TB := tbT_7 _ (List.mem_of_getElem? (i := 50) rfl) rfl
theorem mC10_2_145 : Cond.fieldLinkNest RX11 335 "ClaimTable$Table" "log" "LClaimTable$Log;" "ClaimTable" ∈ NB := nbT_2 _ (List.mem_of_getElem? (i := 145) rfl) rfl
theorem mC10_1_138 : Cond.fieldLinkNest RX11 364 "ClaimTable$Log" "size" "I" "ClaimTable" ∈ NB := nbT_1 _ (List.mem_of_getElem? (i := 138) rfl) rfl
theorem mC10_7_63 : Cond.methodLink RX11 367 yX2_cell ∈ TB := tbT_7 _ (List.mem_of_getElem? (i := 63) rfl) rfl
theorem mC10_3_41 : Cond.code yX2_cell cX2_cell 3 (some .int) ∈ TB := tbT_3 _ (List.mem_of_getElem? (i := 41) rfl) rfl
theorem mC10_3_39 : Cond.instanceMethod yX2_cell ∈ TB := tbT_3 _ (List.mem_of_getElem? (i := 39) rfl) rfl
theorem mC10_3_40 : Cond.selects RX2 yX2_cell yX2_cell ∈ TB := tbT_3 _ (List.mem_of_getElem? (i := 40) rfl) rfl
theorem mC10_1_6 : Cond.initialized RX2 ∈ TB := tbT_1 _ (List.mem_of_getElem? (i := 6) rfl) rfl
theorem mC10_2_212 : Cond.fieldLink RX11 33 "ClaimTable" "kept" "LClaimTable$Table;" ∈ TB := tbT_2 _ (List.mem_of_getElem? (i := 212) rfl) rfl
theorem mC10_3_53 : Cond.methodLink RX11 58 yX6_copyFrom ∈ TB := tbT_3 _ (List.mem_of_getElem? (i := 53) rfl) rfl
theorem mC10_3_56 : Cond.code yX6_copyFrom cX6_copyFrom 3 none ∈ TB := tbT_3 _ (List.mem_of_getElem? (i := 56) rfl) rfl
theorem mC10_3_54 : Cond.instanceMethod yX6_copyFrom ∈ TB := tbT_3 _ (List.mem_of_getElem? (i := 54) rfl) rfl
theorem mC10_3_55 : Cond.selects RX6 yX6_copyFrom yX6_copyFrom ∈ TB := tbT_3 _ (List.mem_of_getElem? (i := 55) rfl) rfl
theorem mC10_2_215 : Cond.fieldLink RX11 370 "ClaimTable" "hasImage" "Z" ∈ TB := tbT_2 _ (List.mem_of_getElem? (i := 215) rfl) rfl
theorem mC10_3_97 : Cond.methodLink RX11 373 yX6_storedJobs ∈ TB := tbT_3 _ (List.mem_of_getElem? (i := 97) rfl) rfl
theorem mC10_3_100 : Cond.code yX6_storedJobs cX6_storedJobs 3 (some .int) ∈ TB := tbT_3 _ (List.mem_of_getElem? (i := 100) rfl) rfl
theorem mC10_3_98 : Cond.instanceMethod yX6_storedJobs ∈ TB := tbT_3 _ (List.mem_of_getElem? (i := 98) rfl) rfl
theorem mC10_3_99 : Cond.selects RX6 yX6_storedJobs yX6_storedJobs ∈ TB := tbT_3 _ (List.mem_of_getElem? (i := 99) rfl) rfl
theorem mC10_2_152 : Cond.fieldLinkNest RX11 376 "ClaimTable$Table" "sessionCount" "I" "ClaimTable" ∈ NB := nbT_2 _ (List.mem_of_getElem? (i := 152) rfl) rfl
theorem mC10_2_155 : Cond.fieldLinkNest RX11 268 "ClaimTable$Table" "scheduleCount" "I" "ClaimTable" ∈ NB := nbT_2 _ (List.mem_of_getElem? (i := 155) rfl) rfl
theorem mC10_2_157 : Cond.fieldLinkNest RX11 71 "ClaimTable$Table" "texts" "I" "ClaimTable" ∈ NB := nbT_2 _ (List.mem_of_getElem? (i := 157) rfl) rfl
theorem mC10_2_163 : Cond.fieldLinkNest RX11 150 "ClaimTable$Table" "mono" "I" "ClaimTable" ∈ NB := nbT_2 _ (List.mem_of_getElem? (i := 163) rfl) rfl
theorem mC10_2_166 : Cond.fieldLinkNest RX11 379 "ClaimTable$Table" "wall" "I" "ClaimTable" ∈ NB := nbT_2 _ (List.mem_of_getElem? (i := 166) rfl) rfl
theorem mC10_2_169 : Cond.fieldLinkNest RX11 382 "ClaimTable$Table" "tokens" "I" "ClaimTable" ∈ NB := nbT_2 _ (List.mem_of_getElem? (i := 169) rfl) rfl
theorem mC10_2_171 : Cond.fieldLinkNest RX11 385 "ClaimTable$Table" "came" "I" "ClaimTable" ∈ NB := nbT_2 _ (List.mem_of_getElem? (i := 171) rfl) rfl
theorem mC10_2_173 : Cond.fieldLinkNest RX11 388 "ClaimTable$Table" "missed" "I" "ClaimTable" ∈ NB := nbT_2 _ (List.mem_of_getElem? (i := 173) rfl) rfl
theorem mC10_2_175 : Cond.fieldLinkNest RX11 391 "ClaimTable$Table" "swept" "I" "ClaimTable" ∈ NB := nbT_2 _ (List.mem_of_getElem? (i := 175) rfl) rfl
theorem mC10_3_101 : Cond.methodLink RX11 112 yX6_openTransactions ∈ TB := tbT_3 _ (List.mem_of_getElem? (i := 101) rfl) rfl
theorem mC10_3_104 : Cond.code yX6_openTransactions cX6_openTransactions 3 (some .int) ∈ TB := tbT_3 _ (List.mem_of_getElem? (i := 104) rfl) rfl
theorem mC10_3_102 : Cond.instanceMethod yX6_openTransactions ∈ TB := tbT_3 _ (List.mem_of_getElem? (i := 102) rfl) rfl
theorem mC10_3_103 : Cond.selects RX6 yX6_openTransactions yX6_openTransactions ∈ TB := tbT_3 _ (List.mem_of_getElem? (i := 103) rfl) rfl
theorem mC10_3_105 : Cond.methodLink RX11 394 yX6_lockedJobs ∈ TB := tbT_3 _ (List.mem_of_getElem? (i := 105) rfl) rfl
theorem mC10_3_108 : Cond.code yX6_lockedJobs cX6_lockedJobs 3 (some .int) ∈ TB := tbT_3 _ (List.mem_of_getElem? (i := 108) rfl) rfl
theorem mC10_3_106 : Cond.instanceMethod yX6_lockedJobs ∈ TB := tbT_3 _ (List.mem_of_getElem? (i := 106) rfl) rfl
theorem mC10_3_107 : Cond.selects RX6 yX6_lockedJobs yX6_lockedJobs ∈ TB := tbT_3 _ (List.mem_of_getElem? (i := 107) rfl) rfl
theorem mC10_2_143 : Cond.fieldLinkNest RX11 153 "ClaimTable$Table" "settings" "[I" "ClaimTable" ∈ NB := nbT_2 _ (List.mem_of_getElem? (i := 143) rfl) rfl
def rm_X11_overtaken : Room := { frames := 7, cells := 1, slots := 6, locals := 115 }
def F_X11_overtaken (a1 : Int32) (S : sSt) (k : Int32 → sSt → Prop) (kx : String → sSt → Prop) : Prop := F_X11_needGroup a1 S (fun S2 => F_X6_overtakenPairs (S2.2 0 0 4) a1 S2 (fun r4 S5 => k r4 S5)) kx
set_option maxHeartbeats 4000000 in
set_option maxRecDepth 100000 in
theorem c_X11_overtaken (l : Launch) (hl0 : l.stackTraces = false) {D : va_G} {cy : Nat → ClassId} {b z : Nat} {tx : TX} {a1 : Int32} {S : sSt} {k : Int32 → sSt → Prop} {kx : String → sSt → Prop} (h : F_X11_overtaken a1 S k kx) : vx_Met l yX11_overtaken (Cond.code yX11_overtaken cX11_overtaken 2 (some .int) :: TB) rm_X11_overtaken (va_Pc [.ref (b + adC 0 0), .int a1] (fun U => RelC D cy b z tx S U U.heap ∧ TxR tx U)) (PiC D cy b z tx k) (XeC D cy b z tx kx) 1 6 (gA b 709 z) := by
  refine vx_ofW (cc := cX11_overtaken) (maxL := 2) (ret := (some .int)) (by decide) rfl ?_
  intro p e s m args below meth c s₁ B hml hexc hv
  obtain ⟨rfl, hR, hT⟩ := hv
  have hX0 := hR.2.2
  have C0 : CallFix p m c cX11_overtaken 2 s _ TB RX11 := ⟨B.exec, B.bytes, hml, findClass_of_methodNamed B.named, fun w hw => atoms_spec B.pre w (List.mem_cons_of_mem _ hw)⟩
  have hr := B.returns
  have hlk := B.notSynchronized
  have hx := C0.1
  have hb := C0.2.1
  have hS : va_S (gA b 709 z) s.heap s.heap [] := va_S.rf
  have hl := lv_entry ([.ref (b + adC 0 0), .int a1]) (n := 2) (Nat.le_of_ble_eq_true rfl)
  rw [lg_entry_eq]
  generalize (lg_sl ([.ref (b + adC 0 0), .int a1]) ++ List.replicate (2 - (lg_sl ([.ref (b + adC 0 0), .int a1])).length) Slot.unset).toArray = ls at hl ⊢
  have hl : lv_has ls 2 [(0, .ref (b + adC 0 0)), (1, .int a1)] := hl
  show W p l e rm_X11_overtaken s m _ below meth c s.heap [] 0 0 (vx_MQ below (PiC D cy b z tx k) (XeC D cy b z tx kx) _ s 1 6 (gA b 709 z)) _
  unfold F_X11_overtaken at h
  refine lv_aload_n hx hb dX11_overtaken_0 rfl (lv_at hl 0 rfl) ?_
  refine lv_iload_n hx hb dX11_overtaken_1 rfl (lv_at hl 1 rfl) ?_
  refine qx_Vv (As := [.int a1]) (rest := []) C0 hlk hexc (c_X11_needGroup l hl0 h) (cwV 1 C0.2.2.2.2 (tbV mC10_5_222 ⟨mC10_5_224, mpC10_2_0, mC10_1_1, mC10_5_225⟩) rfl rfl rfl (by decide +kernel) ⟨Nat.le_of_ble_eq_true rfl, Nat.le_of_ble_eq_true rfl⟩) (rcC_0 hR Nat.zero_lt_one) hR hT hS rfl hl.1 rfl (Nat.le_of_ble_eq_true rfl) dX11_overtaken_2 ⟨Nat.le_of_ble_eq_true rfl, Nat.le_of_ble_eq_true rfl⟩ ⟨Nat.le_of_ble_eq_true rfl, Nat.le_of_ble_eq_true rfl⟩ (fun S2 H locs h hR hS => ?_)
  refine lv_aload_n hx hb dX11_overtaken_5 rfl (lv_at hl 0 rfl) ?_
  refine gC_0_4 C0 hR Nat.zero_lt_one tbs_wsX110 mC10_2_213 dX11_overtaken_6 ?_
  have w3 : (S2.2 0 0 4) < 3 := hR.2.1.2.1
  refine lv_iload_n hx hb dX11_overtaken_9 rfl (lv_at hl 1 rfl) ?_
  refine qC_Vi (As := [.int a1]) (rest := []) C0 (c_X6_overtakenPairs l w3 h) (cwV 1 C0.2.2.2.2 (tbV mC10_6_237 ⟨mC10_6_238, mC10_6_239, mC10_1_5, mC10_7_0⟩) rfl rfl rfl (by decide +kernel) ⟨Nat.le_of_ble_eq_true rfl, Nat.le_of_ble_eq_true rfl⟩) (rcC_13 hR w3) hR hT hS rfl hl.1 rfl (Nat.le_of_ble_eq_true rfl) dX11_overtaken_10 ⟨Nat.le_of_ble_eq_true rfl, Nat.le_of_ble_eq_true rfl⟩ (fun r4 S5 H locs h hR hS => ?_)
  refine vx_ret (W.widen (k := 1) (n := 6) (Nat.le_of_ble_eq_true rfl) (Nat.le_of_ble_eq_true rfl) ?_); exact rtC_i C0 hr hlk hR hS h dX11_overtaken_13

def rm_X9_causesLike : Room := { frames := 1, cells := 0, slots := 0, locals := 22 }
def Bb_X9_causesLike_14 (kk14 : Nat → Nat → Int32 → Int32 → sSt → Prop) (a0 : Nat) (a1 : Nat) (a2 : Int32) (a3 : Int32) (S : sSt) (k : Int32 → sSt → Prop) : Prop := ((a2 ≤ a3 → k a2 S) ∧ (¬ a2 ≤ a3 → F_X9_causeAt a0 a3 S (fun r3 S4 => F_X9_causeAt a1 a3 S4 (fun r5 S6 => ((r3 = r5 → ∀ x8 : Int32, x8 = a3 + 1 → kk14 a0 a1 a2 x8 S6) ∧ (¬ r3 = r5 → k a3 S6))))))
set_option maxHeartbeats 4000000 in
set_option maxRecDepth 100000 in
theorem Bbw_X9_causesLike_14 {p : Program} {l : Launch} {e : Env} {s : State} {m : MethodId} {args : Array Value} {below : List Frame} {meth : Method} {c : Code} {D : va_G} {cy : Nat → ClassId} {b z : Nat} {tx : TX} (C0 : CallFix p m c cX9_causesLike 4 s args TB RX9) (hr : meth.sig.returnType = (some .int)) (hlk : meth.locks = false) (hT : TxR tx s) {k : Int32 → sSt → Prop} {kk14 : Nat → Nat → Int32 → Int32 → sSt → Prop} (ih14 : ∀ (a0 : Nat) (a1 : Nat) (a2 : Int32) (a3 : Int32) (S : sSt) (H : Heap) (locs : List Loc) (ls : Array Slot) (av0 : a0 < 432) (av1 : a1 < 432), kk14 a0 a1 a2 a3 S → RelC D cy b z tx S s H → va_S (gA b 709 z) s.heap H locs → lv_has ls 4 [(0, .ref (b + adC 22 a0)), (1, .ref (b + adC 22 a1)), (2, .int a2), (3, .int a3)] → W p l e rm_X9_causesLike s m args below meth c H locs 0 0 (MQ below (PiC D cy b z tx k) args s 0 0 (gA b 709 z)) (F0 m 14 ls [])) : ∀ (a0 : Nat) (a1 : Nat) (a2 : Int32) (a3 : Int32) (S : sSt) (H : Heap) (locs : List Loc) (ls : Array Slot) (av0 : a0 < 432) (av1 : a1 < 432), Bb_X9_causesLike_14 kk14 a0 a1 a2 a3 S k → RelC D cy b z tx S s H → va_S (gA b 709 z) s.heap H locs → lv_has ls 4 [(0, .ref (b + adC 22 a0)), (1, .ref (b + adC 22 a1)), (2, .int a2), (3, .int a3)] → W p l e rm_X9_causesLike s m args below meth c H locs 0 0 (MQ below (PiC D cy b z tx k) args s 0 0 (gA b 709 z)) (F0 m 14 ls []) := by
  intro a0 a1 a2 a3 S H locs ls av0 av1 h hR hS hl
  have hx := C0.1
  have hb := C0.2.1
  unfold Bb_X9_causesLike_14 at h
  refine lv_iload_n hx hb dX9_causesLike_14 rfl (lv_at hl 3 rfl) ?_
  refine lv_iload_n hx hb dX9_causesLike_15 rfl (lv_at hl 2 rfl) ?_
  refine lv_icmp_ge (tgt := 40) hx hb dX9_causesLike_16 (by decide) (fun c2 => ?_) (fun c2 => ?_)
  · have h := h.1 c2
    refine lv_iload_n hx hb dX9_causesLike_40 rfl (lv_at hl 2 rfl) ?_
    exact rtC_i C0 hr hlk hR hS h dX9_causesLike_41
  · have h := h.2 c2
    refine lv_aload_n hx hb dX9_causesLike_19 rfl (lv_at hl 0 rfl) ?_
    refine lv_iload_n hx hb dX9_causesLike_20 rfl (lv_at hl 3 rfl) ?_
    refine qC_Vi (As := [.int a3]) (rest := []) C0 (c_X9_causeAt l av0 h) (cwV 1 C0.2.2.2.2 (tbV mC10_7_28 ⟨mC10_6_69, mC10_6_70, mC10_1_8, mC10_6_71⟩) rfl rfl rfl (by decide +kernel) ⟨Nat.le_of_ble_eq_true rfl, Nat.le_of_ble_eq_true rfl⟩) (rcC_22 hR av0) hR hT hS rfl hl.1 rfl (Nat.le_of_ble_eq_true rfl) dX9_causesLike_21 ⟨Nat.zero_le _, Nat.zero_le _⟩ (fun r3 S4 H locs h hR hS => ?_)
    refine lv_aload_n hx hb dX9_causesLike_24 rfl (lv_at hl 1 rfl) ?_
    refine lv_iload_n hx hb dX9_causesLike_25 rfl (lv_at hl 3 rfl) ?_
    refine qC_Vi (As := [.int a3]) (rest := [.int r3]) C0 (c_X9_causeAt l av1 h) (cwV 1 C0.2.2.2.2 (tbV mC10_7_28 ⟨mC10_6_69, mC10_6_70, mC10_1_8, mC10_6_71⟩) rfl rfl rfl (by decide +kernel) ⟨Nat.le_of_ble_eq_true rfl, Nat.le_of_ble_eq_true rfl⟩) (rcC_22 hR av1) hR hT hS rfl hl.1 rfl (Nat.le_of_ble_eq_true rfl) dX9_causesLike_26 ⟨Nat.zero_le _, Nat.zero_le _⟩ (fun r5 S6 H locs h hR hS => ?_)
    refine lv_icmp_eq (tgt := 34) hx hb dX9_causesLike_29 (by decide) (fun c7 => ?_) (fun c7 => ?_)
    · have h := h.1 c7
      obtain ⟨x8, ex8⟩ : ∃ x8 : Int32, x8 = a3 + 1 := ⟨_, rfl⟩
      have h := h x8 ex8
      refine w_iinc (v0 := 1) (lv' := [(3, .int x8), (0, .ref (b + adC 22 a0)), (1, .ref (b + adC 22 a1)), (2, .int a2)]) C0 dX9_causesLike_34 hl (k := 3) rfl (by decide) (by decide) x8 ex8 rfl (fun ls hl => ?_)
      refine lv_goto (tgt := 14) hx hb dX9_causesLike_37 (by decide) ?_
      exact ih14 a0 a1 a2 x8 S6 _ _ _ av0 av1 h hR hS (lv_sub hl [1, 2, 3, 0] rfl)
    · have h := h.2 c7
      refine lv_iload_n hx hb dX9_causesLike_32 rfl (lv_at hl 3 rfl) ?_
      exact rtC_i C0 hr hlk hR hS h dX9_causesLike_33
def B_X9_causesLike_14 (n9 : Nat) (a0 : Nat) (a1 : Nat) (a2 : Int32) (a3 : Int32) (S : sSt) (k : Int32 → sSt → Prop) : Prop := (Nat.rec (motive := fun _ => Nat → Nat → Int32 → Int32 → sSt → Prop) (fun _ _ _ _ _ => False) (fun _ r9 => fun a0 a1 a2 a3 S => Bb_X9_causesLike_14 r9 a0 a1 a2 a3 S k) n9 : Nat → Nat → Int32 → Int32 → sSt → Prop) a0 a1 a2 a3 S
theorem B_X9_causesLike_14_s (n9 : Nat) (a0 : Nat) (a1 : Nat) (a2 : Int32) (a3 : Int32) (S : sSt) (k : Int32 → sSt → Prop) : B_X9_causesLike_14 (n9 + 1) a0 a1 a2 a3 S k = Bb_X9_causesLike_14 (fun a0 a1 a2 a3 S => B_X9_causesLike_14 n9 a0 a1 a2 a3 S k) a0 a1 a2 a3 S k := rfl
set_option maxHeartbeats 4000000 in
set_option maxRecDepth 100000 in
theorem Bw_X9_causesLike_14 {p : Program} {l : Launch} {e : Env} {s : State} {m : MethodId} {args : Array Value} {below : List Frame} {meth : Method} {c : Code} {D : va_G} {cy : Nat → ClassId} {b z : Nat} {tx : TX} (C0 : CallFix p m c cX9_causesLike 4 s args TB RX9) (hr : meth.sig.returnType = (some .int)) (hlk : meth.locks = false) (hT : TxR tx s) {k : Int32 → sSt → Prop} : ∀ (n9 : Nat), ∀ (a0 : Nat) (a1 : Nat) (a2 : Int32) (a3 : Int32) (S : sSt) (H : Heap) (locs : List Loc) (ls : Array Slot) (av0 : a0 < 432) (av1 : a1 < 432), B_X9_causesLike_14 n9 a0 a1 a2 a3 S k → RelC D cy b z tx S s H → va_S (gA b 709 z) s.heap H locs → lv_has ls 4 [(0, .ref (b + adC 22 a0)), (1, .ref (b + adC 22 a1)), (2, .int a2), (3, .int a3)] → W p l e rm_X9_causesLike s m args below meth c H locs 0 0 (MQ below (PiC D cy b z tx k) args s 0 0 (gA b 709 z)) (F0 m 14 ls []) := by
  intro n9
  induction n9 with
  | zero => intro a0 a1 a2 a3 S H locs ls av0 av1 h; exact h.elim
  | succ n9 ih =>
    intro a0 a1 a2 a3 S H locs ls av0 av1 h hR hS hl
    exact Bbw_X9_causesLike_14 C0 hr hlk hT ih a0 a1 a2 a3 S H locs ls av0 av1 h hR hS hl
def F_X9_causesLike (a0 : Nat) (a1 : Nat) (S : sSt) (k : Int32 → sSt → Prop) : Prop := ∀ x1 : Int32, x1 = (if (S.1 22 a1 3) < (S.1 22 a0 3) then (S.1 22 a1 3) else (S.1 22 a0 3)) → B_X9_causesLike_14 fuel a0 a1 x1 0 S k
set_option maxHeartbeats 4000000 in
set_option maxRecDepth 100000 in
theorem c_X9_causesLike (l : Launch) {D : va_G} {cy : Nat → ClassId} {b z : Nat} {tx : TX} {a0 : Nat} {a1 : Nat} {S : sSt} {k : Int32 → sSt → Prop} (av0 : a0 < 432) (av1 : a1 < 432) (h : F_X9_causesLike a0 a1 S k) : Met l yX9_causesLike (Cond.code yX9_causesLike cX9_causesLike 4 (some .int) :: TB) rm_X9_causesLike (va_Pc [.ref (b + adC 22 a0), .ref (b + adC 22 a1)] (fun U => RelC D cy b z tx S U U.heap ∧ TxR tx U)) (PiC D cy b z tx k) 0 0 (gA b 709 z) := by
  refine Met.ofW (cc := cX9_causesLike) (maxL := 4) (ret := (some .int)) (by decide) rfl ?_
  intro p e s m args below meth c s₁ B hml hv
  obtain ⟨rfl, hR, hT⟩ := hv
  have C0 : CallFix p m c cX9_causesLike 4 s _ TB RX9 := ⟨B.exec, B.bytes, hml, findClass_of_methodNamed B.named, fun w hw => atoms_spec B.pre w (List.mem_cons_of_mem _ hw)⟩
  have hr := B.returns
  have hlk := B.notSynchronized
  have hx := C0.1
  have hb := C0.2.1
  have hS : va_S (gA b 709 z) s.heap s.heap [] := va_S.rf
  have hl := lv_entry ([.ref (b + adC 22 a0), .ref (b + adC 22 a1)]) (n := 4) (Nat.le_of_ble_eq_true rfl)
  rw [lg_entry_eq]
  generalize (lg_sl ([.ref (b + adC 22 a0), .ref (b + adC 22 a1)]) ++ List.replicate (4 - (lg_sl ([.ref (b + adC 22 a0), .ref (b + adC 22 a1)])).length) Slot.unset).toArray = ls at hl ⊢
  have hl : lv_has ls 4 [(0, .ref (b + adC 22 a0)), (1, .ref (b + adC 22 a1))] := hl
  show W p l e rm_X9_causesLike s m _ below meth c s.heap [] 0 0 (MQ below (PiC D cy b z tx k) _ s 0 0 (gA b 709 z)) _
  unfold F_X9_causesLike at h
  refine lv_aload_n hx hb dX9_causesLike_0 rfl (lv_at hl 0 rfl) ?_
  refine gC_22_3 C0 hR av0 tbs_wsX90 mC10_1_174 dX9_causesLike_1 ?_
  refine lv_aload_n hx hb dX9_causesLike_4 rfl (lv_at hl 1 rfl) ?_
  refine gC_22_3 C0 hR av1 tbs_wsX90 mC10_1_174 dX9_causesLike_5 ?_
  refine va_mmin hx hb (C0.2.2.1.trans hl.1.symm) C0.2.2.2.1 (C0.2.2.2.2 _ mC10_5_173) (C0.2.2.2.2 _ mC10_5_67) (C0.2.2.2.2 _ mC10_1_25) (C0.2.2.2.2 _ mC10_5_68) (Nat.le_of_ble_eq_true rfl) (Nat.le_of_ble_eq_true rfl) (Nat.zero_le _) (Nat.zero_le _) dX9_causesLike_8 ?_
  refine lv_topi (fun x1 ex1 => ?_)
  have h := h x1 ex1
  refine lv_istore_n (lv' := [(2, .int x1), (0, .ref (b + adC 22 a0)), (1, .ref (b + adC 22 a1))]) hx hb dX9_causesLike_11 rfl hl (by decide) rfl (fun ls hl => ?_)
  refine lv_iconst (v := 0) hx hb dX9_causesLike_12 (by decide) ?_
  refine lv_istore_n (lv' := [(3, .int 0), (2, .int x1), (0, .ref (b + adC 22 a0)), (1, .ref (b + adC 22 a1))]) hx hb dX9_causesLike_13 rfl hl (by decide) rfl (fun ls hl => ?_)
  exact Bw_X9_causesLike_14 C0 hr hlk hT fuel a0 a1 x1 0 S _ _ _ av0 av1 h hR hS (lv_sub hl [2, 3, 1, 0] rfl)

def rm_X11_alike : Room := { frames := 7, cells := 3, slots := 18, locals := 112 }
def F_X11_alike (a1 : Int32) (a2 : Int32) (S : sSt) (k : Int32 → sSt → Prop) (kx : String → sSt → Prop) : Prop := F_X11_needJob (-1) a1 S (fun r1 S2 => F_X11_needJob (-1) a2 S2 (fun r4 S5 => ((¬ a1 = a2 → F_X9_causesLike (6 * r1) (6 * r4) S5 (fun r8 S9 => k r8 S9)) ∧ (a1 = a2 → kx "java/lang/IllegalArgumentException" S5))) kx) kx
set_option maxHeartbeats 4000000 in
set_option maxRecDepth 100000 in
theorem c_X11_alike (l : Launch) (hl0 : l.stackTraces = false) {D : va_G} {cy : Nat → ClassId} {b z : Nat} {tx : TX} {a1 : Int32} {a2 : Int32} {S : sSt} {k : Int32 → sSt → Prop} {kx : String → sSt → Prop} (h : F_X11_alike a1 a2 S k kx) : vx_Met l yX11_alike (Cond.code yX11_alike cX11_alike 5 (some .int) :: TB) rm_X11_alike (va_Pc [.ref (b + adC 0 0), .int a1, .int a2] (fun U => RelC D cy b z tx S U U.heap ∧ TxR tx U)) (PiC D cy b z tx k) (XeC D cy b z tx kx) 3 18 (gA b 709 z) := by
  refine vx_ofW (cc := cX11_alike) (maxL := 5) (ret := (some .int)) (by decide) rfl ?_
  intro p e s m args below meth c s₁ B hml hexc hv
  obtain ⟨rfl, hR, hT⟩ := hv
  have hX0 := hR.2.2
  have C0 : CallFix p m c cX11_alike 5 s _ TB RX11 := ⟨B.exec, B.bytes, hml, findClass_of_methodNamed B.named, fun w hw => atoms_spec B.pre w (List.mem_cons_of_mem _ hw)⟩
  have hr := B.returns
  have hlk := B.notSynchronized
  have hx := C0.1
  have hb := C0.2.1
  have hS : va_S (gA b 709 z) s.heap s.heap [] := va_S.rf
  have hl := lv_entry ([.ref (b + adC 0 0), .int a1, .int a2]) (n := 5) (Nat.le_of_ble_eq_true rfl)
  rw [lg_entry_eq]
  generalize (lg_sl ([.ref (b + adC 0 0), .int a1, .int a2]) ++ List.replicate (5 - (lg_sl ([.ref (b + adC 0 0), .int a1, .int a2])).length) Slot.unset).toArray = ls at hl ⊢
  have hl : lv_has ls 5 [(0, .ref (b + adC 0 0)), (1, .int a1), (2, .int a2)] := hl
  show W p l e rm_X11_alike s m _ below meth c s.heap [] 0 0 (vx_MQ below (PiC D cy b z tx k) (XeC D cy b z tx kx) _ s 3 18 (gA b 709 z)) _
  unfold F_X11_alike at h
  refine lv_aload_n hx hb dX11_alike_0 rfl (lv_at hl 0 rfl) ?_
  refine lv_iconst (v := (-1)) hx hb dX11_alike_1 (by decide) ?_
  refine lv_iload_n hx hb dX11_alike_2 rfl (lv_at hl 1 rfl) ?_
  refine qx_Vr (As := [.int (-1), .int a1]) (rest := []) C0 hlk hexc (c_X11_needJob l hl0 h) (cwV 2 C0.2.2.2.2 (tbV mC10_5_134 ⟨mC10_5_136, mpC10_1_12, mC10_1_1, mC10_5_137⟩) rfl rfl rfl (by decide +kernel) ⟨Nat.le_of_ble_eq_true rfl, Nat.le_of_ble_eq_true rfl⟩) (rcC_0 hR Nat.zero_lt_one) hR hT hS rfl hl.1 rfl (Nat.le_of_ble_eq_true rfl) dX11_alike_3 ⟨Nat.le_of_ble_eq_true rfl, Nat.le_of_ble_eq_true rfl⟩ ⟨Nat.le_of_ble_eq_true rfl, Nat.le_of_ble_eq_true rfl⟩ (fun r1 S2 H locs vr1 h hR hS => ?_)
  refine gCn_21_0 C0 hR vr1 tbs_wsX10 mC10_1_214 hT dX11_alike_6 ?_
  have w3 : (6 * r1) < 432 := by omega
  refine lv_astore_n (lv' := [(3, .ref (b + adC 22 (6 * r1))), (0, .ref (b + adC 0 0)), (1, .int a1), (2, .int a2)]) hx hb dX11_alike_9 rfl hl (by decide) rfl (fun ls hl => ?_)
  refine lv_aload_n hx hb dX11_alike_10 rfl (lv_at hl 1 rfl) ?_
  refine lv_iconst (v := (-1)) hx hb dX11_alike_11 (by decide) ?_
  refine lv_iload_n hx hb dX11_alike_12 rfl (lv_at hl 3 rfl) ?_
  refine qx_Vr (As := [.int (-1), .int a2]) (rest := []) C0 hlk hexc (c_X11_needJob l hl0 h) (cwV 2 C0.2.2.2.2 (tbV mC10_5_134 ⟨mC10_5_136, mpC10_1_12, mC10_1_1, mC10_5_137⟩) rfl rfl rfl (by decide +kernel) ⟨Nat.le_of_ble_eq_true rfl, Nat.le_of_ble_eq_true rfl⟩) (rcC_0 hR Nat.zero_lt_one) hR hT hS rfl hl.1 rfl (Nat.le_of_ble_eq_true rfl) dX11_alike_13 ⟨Nat.le_of_ble_eq_true rfl, Nat.le_of_ble_eq_true rfl⟩ ⟨Nat.le_of_ble_eq_true rfl, Nat.le_of_ble_eq_true rfl⟩ (fun r4 S5 H locs vr4 h hR hS => ?_)
  refine gCn_21_0 C0 hR vr4 tbs_wsX10 mC10_1_214 hT dX11_alike_16 ?_
  have w6 : (6 * r4) < 432 := by omega
  refine lv_astore (lv' := [(4, .ref (b + adC 22 (6 * r4))), (3, .ref (b + adC 22 (6 * r1))), (0, .ref (b + adC 0 0)), (1, .int a1), (2, .int a2)]) hx hb dX11_alike_19 hl (by decide) rfl (fun ls hl => ?_)
  refine lv_iload_n hx hb dX11_alike_21 rfl (lv_at hl 3 rfl) ?_
  refine lv_iload_n hx hb dX11_alike_22 rfl (lv_at hl 4 rfl) ?_
  refine lv_icmp_ne (tgt := 34) hx hb dX11_alike_23 (by decide) (fun c7 => ?_) (fun c7 => ?_)
  · have h := h.1 c7
    refine lv_aload_n hx hb dX11_alike_34 rfl (lv_at hl 1 rfl) ?_
    refine lv_aload hx hb dX11_alike_35 (lv_at hl 0 rfl) ?_
    refine qC_Vi (As := [.ref (b + adC 22 (6 * r4))]) (rest := []) C0 (c_X9_causesLike l w3 w6 h) (cwV 1 C0.2.2.2.2 (tbV mC10_7_24 ⟨mC10_7_25, mC10_7_26, mC10_1_8, mC10_7_27⟩) rfl rfl rfl (by decide +kernel) ⟨Nat.le_of_ble_eq_true rfl, Nat.le_of_ble_eq_true rfl⟩) (rcC_22 hR w3) hR hT hS rfl hl.1 rfl (Nat.le_of_ble_eq_true rfl) dX11_alike_37 ⟨Nat.le_of_ble_eq_true rfl, Nat.le_of_ble_eq_true rfl⟩ (fun r8 S9 H locs h hR hS => ?_)
    refine vx_ret (W.widen (k := 3) (n := 18) (Nat.le_of_ble_eq_true rfl) (Nat.le_of_ble_eq_true rfl) ?_); exact rtC_i C0 hr hlk hR hS h dX11_alike_40
  · have h := h.2 c7
    exact w_throw_0 C0 hl0 hX0 hT hR hS hl.1 hexc hlk h mC10_4_45 mC10_1_21 dX11_alike_26 dX11_alike_29 dX11_alike_30 dX11_alike_33 (Nat.le_of_ble_eq_true rfl) (Nat.le_of_ble_eq_true rfl) (Nat.le_of_ble_eq_true rfl) (Nat.le_of_ble_eq_true rfl) (Nat.le_of_ble_eq_true rfl) (Nat.le_of_ble_eq_true rfl)

def rm_X6_setAsideFrom : Room := { frames := 1, cells := 0, slots := 0, locals := 21 }
def B_X6_setAsideFrom_75 (kk4 : Nat → Int32 → Int32 → Int32 → sSt → Prop) (a0 : Nat) (a1 : Int32) (a2 : Int32) (a3 : Int32) (S : sSt) (k : Int32 → sSt → Prop) : Prop := ∀ x10 : Int32, x10 = a3 + 1 → kk4 a0 a1 a2 x10 S
set_option maxHeartbeats 4000000 in
set_option maxRecDepth 100000 in
theorem Bw_X6_setAsideFrom_75 {p : Program} {l : Launch} {e : Env} {s : State} {m : MethodId} {args : Array Value} {below : List Frame} {meth : Method} {c : Code} {D : va_G} {cy : Nat → ClassId} {b z : Nat} {tx : TX} (C0 : CallFix p m c cX6_setAsideFrom 6 s args TB RX6) (hr : meth.sig.returnType = (some .int)) (hlk : meth.locks = false) (hT : TxR tx s) {k : Int32 → sSt → Prop} {kk4 : Nat → Int32 → Int32 → Int32 → sSt → Prop} (ih4 : ∀ (a0 : Nat) (a1 : Int32) (a2 : Int32) (a3 : Int32) (S : sSt) (H : Heap) (locs : List Loc) (ls : Array Slot) (av0 : a0 < 3), kk4 a0 a1 a2 a3 S → RelC D cy b z tx S s H → va_S (gA b 709 z) s.heap H locs → lv_has ls 6 [(0, .ref (b + adC 13 a0)), (1, .int a1), (2, .int a2), (3, .int a3)] → W p l e rm_X6_setAsideFrom s m args below meth c H locs 0 0 (MQ below (PiC D cy b z tx k) args s 0 0 (gA b 709 z)) (F0 m 4 ls [])) : ∀ (a0 : Nat) (a1 : Int32) (a2 : Int32) (a3 : Int32) (S : sSt) (H : Heap) (locs : List Loc) (ls : Array Slot) (av0 : a0 < 3), B_X6_setAsideFrom_75 kk4 a0 a1 a2 a3 S k → RelC D cy b z tx S s H → va_S (gA b 709 z) s.heap H locs → lv_has ls 6 [(0, .ref (b + adC 13 a0)), (1, .int a1), (2, .int a2), (3, .int a3)] → W p l e rm_X6_setAsideFrom s m args below meth c H locs 0 0 (MQ below (PiC D cy b z tx k) args s 0 0 (gA b 709 z)) (F0 m 75 ls []) := by
  intro a0 a1 a2 a3 S H locs ls av0 h hR hS hl
  have hx := C0.1
  have hb := C0.2.1
  unfold B_X6_setAsideFrom_75 at h
  obtain ⟨x10, ex10⟩ : ∃ x10 : Int32, x10 = a3 + 1 := ⟨_, rfl⟩
  have h := h x10 ex10
  refine w_iinc (v0 := 1) (lv' := [(3, .int x10), (0, .ref (b + adC 13 a0)), (1, .int a1), (2, .int a2)]) C0 dX6_setAsideFrom_75 hl (k := 3) rfl (by decide) (by decide) x10 ex10 rfl (fun ls hl => ?_)
  refine lv_goto (tgt := 4) hx hb dX6_setAsideFrom_78 (by decide) ?_
  exact ih4 a0 a1 a2 x10 S _ _ _ av0 h hR hS (lv_sub hl [1, 2, 3, 0] rfl)
def B_X6_setAsideFrom_49 (kk4 : Nat → Int32 → Int32 → Int32 → sSt → Prop) (a0 : Nat) (a1 : Int32) (a2 : Int32) (a3 : Int32) (a4 : Nat) (t0 : Int32) (S : sSt) (k : Int32 → sSt → Prop) : Prop := ((t0 = 0 → B_X6_setAsideFrom_75 kk4 a0 a1 a2 a3 S k) ∧ (¬ t0 = 0 → F_X9_causeAt a4 ((S.1 22 a4 3) - 1) S (fun r11 S12 => ((¬ r11 = a1 → B_X6_setAsideFrom_75 kk4 a0 a1 a2 a3 S12 k) ∧ (r11 = a1 → ∀ x14 : Int32, x14 = a2 + 1 → B_X6_setAsideFrom_75 kk4 a0 a1 x14 a3 S12 k)))))
set_option maxHeartbeats 4000000 in
set_option maxRecDepth 100000 in
theorem Bw_X6_setAsideFrom_49 {p : Program} {l : Launch} {e : Env} {s : State} {m : MethodId} {args : Array Value} {below : List Frame} {meth : Method} {c : Code} {D : va_G} {cy : Nat → ClassId} {b z : Nat} {tx : TX} (C0 : CallFix p m c cX6_setAsideFrom 6 s args TB RX6) (hr : meth.sig.returnType = (some .int)) (hlk : meth.locks = false) (hT : TxR tx s) {k : Int32 → sSt → Prop} {kk4 : Nat → Int32 → Int32 → Int32 → sSt → Prop} (ih4 : ∀ (a0 : Nat) (a1 : Int32) (a2 : Int32) (a3 : Int32) (S : sSt) (H : Heap) (locs : List Loc) (ls : Array Slot) (av0 : a0 < 3), kk4 a0 a1 a2 a3 S → RelC D cy b z tx S s H → va_S (gA b 709 z) s.heap H locs → lv_has ls 6 [(0, .ref (b + adC 13 a0)), (1, .int a1), (2, .int a2), (3, .int a3)] → W p l e rm_X6_setAsideFrom s m args below meth c H locs 0 0 (MQ below (PiC D cy b z tx k) args s 0 0 (gA b 709 z)) (F0 m 4 ls [])) : ∀ (a0 : Nat) (a1 : Int32) (a2 : Int32) (a3 : Int32) (a4 : Nat) (t0 : Int32) (S : sSt) (H : Heap) (locs : List Loc) (ls : Array Slot) (av0 : a0 < 3) (av4 : a4 < 432), B_X6_setAsideFrom_49 kk4 a0 a1 a2 a3 a4 t0 S k → RelC D cy b z tx S s H → va_S (gA b 709 z) s.heap H locs → lv_has ls 6 [(0, .ref (b + adC 13 a0)), (1, .int a1), (2, .int a2), (3, .int a3), (4, .ref (b + adC 22 a4))] → W p l e rm_X6_setAsideFrom s m args below meth c H locs 0 0 (MQ below (PiC D cy b z tx k) args s 0 0 (gA b 709 z)) (F0 m 49 ls [.int t0]) := by
  intro a0 a1 a2 a3 a4 t0 S H locs ls av0 av4 h hR hS hl
  have hx := C0.1
  have hb := C0.2.1
  unfold B_X6_setAsideFrom_49 at h
  refine lv_istore (lv' := [(5, .int t0), (0, .ref (b + adC 13 a0)), (1, .int a1), (2, .int a2), (3, .int a3), (4, .ref (b + adC 22 a4))]) hx hb dX6_setAsideFrom_49 hl (by decide) rfl (fun ls hl => ?_)
  refine lv_iload hx hb dX6_setAsideFrom_51 (lv_at hl 0 rfl) ?_
  refine lv_if_eq (tgt := 75) hx hb dX6_setAsideFrom_53 (by decide) (fun c9 => ?_) (fun c9 => ?_)
  · have h := h.1 c9
    exact Bw_X6_setAsideFrom_75 C0 hr hlk hT ih4 a0 a1 a2 a3 S _ _ _ av0 h hR hS (lv_sub hl [1, 2, 3, 4] rfl)
  · have h := h.2 c9
    refine lv_aload hx hb dX6_setAsideFrom_56 (lv_at hl 5 rfl) ?_
    refine lv_aload hx hb dX6_setAsideFrom_58 (lv_at hl 5 rfl) ?_
    refine gCn_22_3 C0 hR av4 tbs_wsX90 mC10_1_176 hT dX6_setAsideFrom_60 ?_
    refine lv_iconst (v := 1) hx hb dX6_setAsideFrom_63 (by decide) ?_
    refine lv_isub hx hb dX6_setAsideFrom_64 ?_
    refine qC_Vi (As := [.int ((S.1 22 a4 3) - 1)]) (rest := []) C0 (c_X9_causeAt l av4 h) (cwV 1 C0.2.2.2.2 (tbV mC10_7_40 ⟨mC10_6_69, mC10_6_70, mC10_1_8, mC10_6_71⟩) rfl rfl rfl (by decide +kernel) ⟨Nat.le_of_ble_eq_true rfl, Nat.le_of_ble_eq_true rfl⟩) (rcC_22 hR av4) hR hT hS rfl hl.1 rfl (Nat.le_of_ble_eq_true rfl) dX6_setAsideFrom_65 ⟨Nat.zero_le _, Nat.zero_le _⟩ (fun r11 S12 H locs h hR hS => ?_)
    refine lv_iload_n hx hb dX6_setAsideFrom_68 rfl (lv_at hl 2 rfl) ?_
    refine lv_icmp_ne (tgt := 75) hx hb dX6_setAsideFrom_69 (by decide) (fun c13 => ?_) (fun c13 => ?_)
    · have h := h.1 c13
      exact Bw_X6_setAsideFrom_75 C0 hr hlk hT ih4 a0 a1 a2 a3 S12 _ _ _ av0 h hR hS (lv_sub hl [1, 2, 3, 4] rfl)
    · have h := h.2 c13
      obtain ⟨x14, ex14⟩ : ∃ x14 : Int32, x14 = a2 + 1 := ⟨_, rfl⟩
      have h := h x14 ex14
      refine w_iinc (v0 := 1) (lv' := [(2, .int x14), (5, .int t0), (0, .ref (b + adC 13 a0)), (1, .int a1), (3, .int a3), (4, .ref (b + adC 22 a4))]) C0 dX6_setAsideFrom_72 hl (k := 3) rfl (by decide) (by decide) x14 ex14 rfl (fun ls hl => ?_)
      exact Bw_X6_setAsideFrom_75 C0 hr hlk hT ih4 a0 a1 x14 a3 S12 _ _ _ av0 h hR hS (lv_sub hl [2, 3, 0, 4] rfl)
def B_X6_setAsideFrom_48 (kk4 : Nat → Int32 → Int32 → Int32 → sSt → Prop) (a0 : Nat) (a1 : Int32) (a2 : Int32) (a3 : Int32) (a4 : Nat) (S : sSt) (k : Int32 → sSt → Prop) : Prop := B_X6_setAsideFrom_49 kk4 a0 a1 a2 a3 a4 0 S k
set_option maxHeartbeats 4000000 in
set_option maxRecDepth 100000 in
theorem Bw_X6_setAsideFrom_48 {p : Program} {l : Launch} {e : Env} {s : State} {m : MethodId} {args : Array Value} {below : List Frame} {meth : Method} {c : Code} {D : va_G} {cy : Nat → ClassId} {b z : Nat} {tx : TX} (C0 : CallFix p m c cX6_setAsideFrom 6 s args TB RX6) (hr : meth.sig.returnType = (some .int)) (hlk : meth.locks = false) (hT : TxR tx s) {k : Int32 → sSt → Prop} {kk4 : Nat → Int32 → Int32 → Int32 → sSt → Prop} (ih4 : ∀ (a0 : Nat) (a1 : Int32) (a2 : Int32) (a3 : Int32) (S : sSt) (H : Heap) (locs : List Loc) (ls : Array Slot) (av0 : a0 < 3), kk4 a0 a1 a2 a3 S → RelC D cy b z tx S s H → va_S (gA b 709 z) s.heap H locs → lv_has ls 6 [(0, .ref (b + adC 13 a0)), (1, .int a1), (2, .int a2), (3, .int a3)] → W p l e rm_X6_setAsideFrom s m args below meth c H locs 0 0 (MQ below (PiC D cy b z tx k) args s 0 0 (gA b 709 z)) (F0 m 4 ls [])) : ∀ (a0 : Nat) (a1 : Int32) (a2 : Int32) (a3 : Int32) (a4 : Nat) (S : sSt) (H : Heap) (locs : List Loc) (ls : Array Slot) (av0 : a0 < 3) (av4 : a4 < 432), B_X6_setAsideFrom_48 kk4 a0 a1 a2 a3 a4 S k → RelC D cy b z tx S s H → va_S (gA b 709 z) s.heap H locs → lv_has ls 6 [(0, .ref (b + adC 13 a0)), (1, .int a1), (2, .int a2), (3, .int a3), (4, .ref (b + adC 22 a4))] → W p l e rm_X6_setAsideFrom s m args below meth c H locs 0 0 (MQ below (PiC D cy b z tx k) args s 0 0 (gA b 709 z)) (F0 m 48 ls []) := by
  intro a0 a1 a2 a3 a4 S H locs ls av0 av4 h hR hS hl
  have hx := C0.1
  have hb := C0.2.1
  unfold B_X6_setAsideFrom_48 at h
  refine lv_iconst (v := 0) hx hb dX6_setAsideFrom_48 (by decide) ?_
  exact Bw_X6_setAsideFrom_49 C0 hr hlk hT ih4 a0 a1 a2 a3 a4 0 S _ _ _ av0 av4 h hR hS (lv_sub hl [0, 1, 2, 3, 4] rfl)
def Bb_X6_setAsideFrom_4 (kk4 : Nat → Int32 → Int32 → Int32 → sSt → Prop) (a0 : Nat) (a1 : Int32) (a2 : Int32) (a3 : Int32) (S : sSt) (k : Int32 → sSt → Prop) : Prop := (((S.1 13 a0 6) ≤ a3 → k a2 S) ∧ (¬ (S.1 13 a0 6) ≤ a3 → ix a3 24 (fun j3 => (((S.1 21 (S.2 14 a0 j3) 5) = 0 → B_X6_setAsideFrom_48 kk4 a0 a1 a2 a3 (6 * (S.2 14 a0 j3)) S k) ∧ (¬ (S.1 21 (S.2 14 a0 j3) 5) = 0 → ((¬ (S.1 22 (6 * (S.2 14 a0 j3)) 0) = 3 → B_X6_setAsideFrom_48 kk4 a0 a1 a2 a3 (6 * (S.2 14 a0 j3)) S k) ∧ ((S.1 22 (6 * (S.2 14 a0 j3)) 0) = 3 → B_X6_setAsideFrom_49 kk4 a0 a1 a2 a3 (6 * (S.2 14 a0 j3)) 1 S k)))))))
set_option maxHeartbeats 4000000 in
set_option maxRecDepth 100000 in
theorem Bbw_X6_setAsideFrom_4 {p : Program} {l : Launch} {e : Env} {s : State} {m : MethodId} {args : Array Value} {below : List Frame} {meth : Method} {c : Code} {D : va_G} {cy : Nat → ClassId} {b z : Nat} {tx : TX} (C0 : CallFix p m c cX6_setAsideFrom 6 s args TB RX6) (hr : meth.sig.returnType = (some .int)) (hlk : meth.locks = false) (hT : TxR tx s) {k : Int32 → sSt → Prop} {kk4 : Nat → Int32 → Int32 → Int32 → sSt → Prop} (ih4 : ∀ (a0 : Nat) (a1 : Int32) (a2 : Int32) (a3 : Int32) (S : sSt) (H : Heap) (locs : List Loc) (ls : Array Slot) (av0 : a0 < 3), kk4 a0 a1 a2 a3 S → RelC D cy b z tx S s H → va_S (gA b 709 z) s.heap H locs → lv_has ls 6 [(0, .ref (b + adC 13 a0)), (1, .int a1), (2, .int a2), (3, .int a3)] → W p l e rm_X6_setAsideFrom s m args below meth c H locs 0 0 (MQ below (PiC D cy b z tx k) args s 0 0 (gA b 709 z)) (F0 m 4 ls [])) : ∀ (a0 : Nat) (a1 : Int32) (a2 : Int32) (a3 : Int32) (S : sSt) (H : Heap) (locs : List Loc) (ls : Array Slot) (av0 : a0 < 3), Bb_X6_setAsideFrom_4 kk4 a0 a1 a2 a3 S k → RelC D cy b z tx S s H → va_S (gA b 709 z) s.heap H locs → lv_has ls 6 [(0, .ref (b + adC 13 a0)), (1, .int a1), (2, .int a2), (3, .int a3)] → W p l e rm_X6_setAsideFrom s m args below meth c H locs 0 0 (MQ below (PiC D cy b z tx k) args s 0 0 (gA b 709 z)) (F0 m 4 ls []) := by
  intro a0 a1 a2 a3 S H locs ls av0 h hR hS hl
  have hx := C0.1
  have hb := C0.2.1
  unfold Bb_X6_setAsideFrom_4 at h
  refine lv_iload_n hx hb dX6_setAsideFrom_4 rfl (lv_at hl 3 rfl) ?_
  refine lv_aload_n hx hb dX6_setAsideFrom_5 rfl (lv_at hl 0 rfl) ?_
  refine gC_13_6 C0 hR av0 tbs_wsX60 mC10_2_146 dX6_setAsideFrom_6 ?_
  refine lv_icmp_ge (tgt := 81) hx hb dX6_setAsideFrom_9 (by decide) (fun c1 => ?_) (fun c1 => ?_)
  · have h := h.1 c1
    refine lv_iload_n hx hb dX6_setAsideFrom_81 rfl (lv_at hl 2 rfl) ?_
    exact rtC_i C0 hr hlk hR hS h dX6_setAsideFrom_82
  · have h := h.2 c1
    refine lv_aload_n hx hb dX6_setAsideFrom_12 rfl (lv_at hl 0 rfl) ?_
    refine gC_13_0 C0 hR av0 tbs_wsX60 mC10_2_126 dX6_setAsideFrom_13 ?_
    have w2 : a0 < 3 := by omega
    refine lv_iload_n hx hb dX6_setAsideFrom_16 rfl (lv_at hl 3 rfl) ?_
    obtain ⟨j3, hj3, ej3, h⟩ := h
    refine lC_14 C0 hR w2 hj3 ej3 dX6_setAsideFrom_17 ?_
    have w4 : (S.2 14 a0 j3) < 72 := hR.2.1.1 _ _ w2 hj3
    refine gCn_21_0 C0 hR w4 tbs_wsX10 mC10_1_212 hT dX6_setAsideFrom_18 ?_
    have w5 : (6 * (S.2 14 a0 j3)) < 432 := by omega
    refine lv_astore (lv' := [(4, .ref (b + adC 22 (6 * (S.2 14 a0 j3)))), (0, .ref (b + adC 13 a0)), (1, .int a1), (2, .int a2), (3, .int a3)]) hx hb dX6_setAsideFrom_21 hl (by decide) rfl (fun ls hl => ?_)
    refine lv_aload_n hx hb dX6_setAsideFrom_23 rfl (lv_at hl 1 rfl) ?_
    refine gC_13_0 C0 hR av0 tbs_wsX60 mC10_2_126 dX6_setAsideFrom_24 ?_
    have w6 : a0 < 3 := by omega
    refine lv_iload_n hx hb dX6_setAsideFrom_27 rfl (lv_at hl 4 rfl) ?_
    refine lC_14 C0 hR w6 hj3 ej3 dX6_setAsideFrom_28 ?_
    have w7 : (S.2 14 a0 j3) < 72 := hR.2.1.1 _ _ w6 hj3
    refine gCn_21_5 C0 hR w7 tbs_wsX10 mC10_1_225 hT dX6_setAsideFrom_29 ?_
    refine lv_if_eq (tgt := 48) hx hb dX6_setAsideFrom_32 (by decide) (fun c8 => ?_) (fun c8 => ?_)
    · have h := h.1 c8
      exact Bw_X6_setAsideFrom_48 C0 hr hlk hT ih4 a0 a1 a2 a3 (6 * (S.2 14 a0 j3)) S _ _ _ av0 w5 h hR hS (lv_sub hl [1, 2, 3, 4, 0] rfl)
    · have h := h.2 c8
      refine lv_aload hx hb dX6_setAsideFrom_35 (lv_at hl 0 rfl) ?_
      refine gCn_22_0 C0 hR w5 tbs_wsX90 mC10_1_161 hT dX6_setAsideFrom_37 ?_
      refine lv_iconst (v := 3) hx hb dX6_setAsideFrom_40 (by decide) ?_
      refine lv_icmp_ne (tgt := 48) hx hb dX6_setAsideFrom_41 (by decide) (fun c15 => ?_) (fun c15 => ?_)
      · have h := h.1 c15
        exact Bw_X6_setAsideFrom_48 C0 hr hlk hT ih4 a0 a1 a2 a3 (6 * (S.2 14 a0 j3)) S _ _ _ av0 w5 h hR hS (lv_sub hl [1, 2, 3, 4, 0] rfl)
      · have h := h.2 c15
        refine lv_iconst (v := 1) hx hb dX6_setAsideFrom_44 (by decide) ?_
        refine lv_goto (tgt := 49) hx hb dX6_setAsideFrom_45 (by decide) ?_
        exact Bw_X6_setAsideFrom_49 C0 hr hlk hT ih4 a0 a1 a2 a3 (6 * (S.2 14 a0 j3)) 1 S _ _ _ av0 w5 h hR hS (lv_sub hl [1, 2, 3, 4, 0] rfl)
def B_X6_setAsideFrom_4 (n9 : Nat) (a0 : Nat) (a1 : Int32) (a2 : Int32) (a3 : Int32) (S : sSt) (k : Int32 → sSt → Prop) : Prop := (Nat.rec (motive := fun _ => Nat → Int32 → Int32 → Int32 → sSt → Prop) (fun _ _ _ _ _ => False) (fun _ r9 => fun a0 a1 a2 a3 S => Bb_X6_setAsideFrom_4 r9 a0 a1 a2 a3 S k) n9 : Nat → Int32 → Int32 → Int32 → sSt → Prop) a0 a1 a2 a3 S
theorem B_X6_setAsideFrom_4_s (n9 : Nat) (a0 : Nat) (a1 : Int32) (a2 : Int32) (a3 : Int32) (S : sSt) (k : Int32 → sSt → Prop) : B_X6_setAsideFrom_4 (n9 + 1) a0 a1 a2 a3 S k = Bb_X6_setAsideFrom_4 (fun a0 a1 a2 a3 S => B_X6_setAsideFrom_4 n9 a0 a1 a2 a3 S k) a0 a1 a2 a3 S k := rfl
set_option maxHeartbeats 4000000 in
set_option maxRecDepth 100000 in
theorem Bw_X6_setAsideFrom_4 {p : Program} {l : Launch} {e : Env} {s : State} {m : MethodId} {args : Array Value} {below : List Frame} {meth : Method} {c : Code} {D : va_G} {cy : Nat → ClassId} {b z : Nat} {tx : TX} (C0 : CallFix p m c cX6_setAsideFrom 6 s args TB RX6) (hr : meth.sig.returnType = (some .int)) (hlk : meth.locks = false) (hT : TxR tx s) {k : Int32 → sSt → Prop} : ∀ (n9 : Nat), ∀ (a0 : Nat) (a1 : Int32) (a2 : Int32) (a3 : Int32) (S : sSt) (H : Heap) (locs : List Loc) (ls : Array Slot) (av0 : a0 < 3), B_X6_setAsideFrom_4 n9 a0 a1 a2 a3 S k → RelC D cy b z tx S s H → va_S (gA b 709 z) s.heap H locs → lv_has ls 6 [(0, .ref (b + adC 13 a0)), (1, .int a1), (2, .int a2), (3, .int a3)] → W p l e rm_X6_setAsideFrom s m args below meth c H locs 0 0 (MQ below (PiC D cy b z tx k) args s 0 0 (gA b 709 z)) (F0 m 4 ls []) := by
  intro n9
  induction n9 with
  | zero => intro a0 a1 a2 a3 S H locs ls av0 h; exact h.elim
  | succ n9 ih =>
    intro a0 a1 a2 a3 S H locs ls av0 h hR hS hl
    exact Bbw_X6_setAsideFrom_4 C0 hr hlk hT ih a0 a1 a2 a3 S H locs ls av0 h hR hS hl
def F_X6_setAsideFrom (a0 : Nat) (a1 : Int32) (S : sSt) (k : Int32 → sSt → Prop) : Prop := B_X6_setAsideFrom_4 fuel a0 a1 0 0 S k
set_option maxHeartbeats 4000000 in
set_option maxRecDepth 100000 in
theorem c_X6_setAsideFrom (l : Launch) {D : va_G} {cy : Nat → ClassId} {b z : Nat} {tx : TX} {a0 : Nat} {a1 : Int32} {S : sSt} {k : Int32 → sSt → Prop} (av0 : a0 < 3) (h : F_X6_setAsideFrom a0 a1 S k) : Met l yX6_setAsideFrom (Cond.code yX6_setAsideFrom cX6_setAsideFrom 6 (some .int) :: TB) rm_X6_setAsideFrom (va_Pc [.ref (b + adC 13 a0), .int a1] (fun U => RelC D cy b z tx S U U.heap ∧ TxR tx U)) (PiC D cy b z tx k) 0 0 (gA b 709 z) := by
  refine Met.ofW (cc := cX6_setAsideFrom) (maxL := 6) (ret := (some .int)) (by decide) rfl ?_
  intro p e s m args below meth c s₁ B hml hv
  obtain ⟨rfl, hR, hT⟩ := hv
  have C0 : CallFix p m c cX6_setAsideFrom 6 s _ TB RX6 := ⟨B.exec, B.bytes, hml, findClass_of_methodNamed B.named, fun w hw => atoms_spec B.pre w (List.mem_cons_of_mem _ hw)⟩
  have hr := B.returns
  have hlk := B.notSynchronized
  have hx := C0.1
  have hb := C0.2.1
  have hS : va_S (gA b 709 z) s.heap s.heap [] := va_S.rf
  have hl := lv_entry ([.ref (b + adC 13 a0), .int a1]) (n := 6) (Nat.le_of_ble_eq_true rfl)
  rw [lg_entry_eq]
  generalize (lg_sl ([.ref (b + adC 13 a0), .int a1]) ++ List.replicate (6 - (lg_sl ([.ref (b + adC 13 a0), .int a1])).length) Slot.unset).toArray = ls at hl ⊢
  have hl : lv_has ls 6 [(0, .ref (b + adC 13 a0)), (1, .int a1)] := hl
  show W p l e rm_X6_setAsideFrom s m _ below meth c s.heap [] 0 0 (MQ below (PiC D cy b z tx k) _ s 0 0 (gA b 709 z)) _
  unfold F_X6_setAsideFrom at h
  refine lv_iconst (v := 0) hx hb dX6_setAsideFrom_0 (by decide) ?_
  refine lv_istore_n (lv' := [(2, .int 0), (0, .ref (b + adC 13 a0)), (1, .int a1)]) hx hb dX6_setAsideFrom_1 rfl hl (by decide) rfl (fun ls hl => ?_)
  refine lv_iconst (v := 0) hx hb dX6_setAsideFrom_2 (by decide) ?_
  refine lv_istore_n (lv' := [(3, .int 0), (2, .int 0), (0, .ref (b + adC 13 a0)), (1, .int a1)]) hx hb dX6_setAsideFrom_3 rfl hl (by decide) rfl (fun ls hl => ?_)
  exact Bw_X6_setAsideFrom_4 C0 hr hlk hT fuel a0 a1 0 0 S _ _ _ av0 h hR hS (lv_sub hl [2, 3, 1, 0] rfl)

def rm_X11_root : Room := { frames := 6, cells := 1, slots := 6, locals := 89 }
def B_X11_root_10 (S : sSt) (k : Int32 → sSt → Prop) (kx : String → sSt → Prop) : Prop := kx "java/lang/IllegalArgumentException" S
set_option maxHeartbeats 4000000 in
set_option maxRecDepth 100000 in
theorem Bw_X11_root_10 {p : Program} {l : Launch} {e : Env} {s : State} {m : MethodId} {args : Array Value} {below : List Frame} {meth : Method} {c : Code} {D : va_G} {cy : Nat → ClassId} {b z : Nat} {tx : TX} (C0 : CallFix p m c cX11_root 2 s args TB RX11) (hr : meth.sig.returnType = (some .int)) (hlk : meth.locks = false) (hT : TxR tx s) (hl0 : l.stackTraces = false) (hX0 : TxP tx b z s s.heap) (hexc : ∀ x ∈ c.exceptionTable.toList, False) {k : Int32 → sSt → Prop} {kx : String → sSt → Prop} : ∀ (S : sSt) (H : Heap) (locs : List Loc) (ls : Array Slot) , B_X11_root_10 S k kx → RelC D cy b z tx S s H → va_S (gA b 709 z) s.heap H locs → lv_has ls 2 [] → W p l e rm_X11_root s m args below meth c H locs 0 0 (vx_MQ below (PiC D cy b z tx k) (XeC D cy b z tx kx) args s 1 6 (gA b 709 z)) (F0 m 10 ls []) := by
  intro S H locs ls h hR hS hl
  have hx := C0.1
  have hb := C0.2.1
  unfold B_X11_root_10 at h
  exact w_throw_0 C0 hl0 hX0 hT hR hS hl.1 hexc hlk h mC10_4_45 mC10_1_21 dX11_root_10 dX11_root_13 dX11_root_14 dX11_root_17 (Nat.le_of_ble_eq_true rfl) (Nat.le_of_ble_eq_true rfl) (Nat.le_of_ble_eq_true rfl) (Nat.le_of_ble_eq_true rfl) (Nat.le_of_ble_eq_true rfl) (Nat.le_of_ble_eq_true rfl)
def F_X11_root (a1 : Int32) (S : sSt) (k : Int32 → sSt → Prop) (kx : String → sSt → Prop) : Prop := ((a1 < 0 → B_X11_root_10 S k kx) ∧ (¬ a1 < 0 → ((a1 ≤ 6 → F_X6_setAsideFrom (S.2 0 0 4) a1 S (fun r4 S5 => k r4 S5)) ∧ (¬ a1 ≤ 6 → B_X11_root_10 S k kx))))
set_option maxHeartbeats 4000000 in
set_option maxRecDepth 100000 in
theorem c_X11_root (l : Launch) (hl0 : l.stackTraces = false) {D : va_G} {cy : Nat → ClassId} {b z : Nat} {tx : TX} {a1 : Int32} {S : sSt} {k : Int32 → sSt → Prop} {kx : String → sSt → Prop} (h : F_X11_root a1 S k kx) : vx_Met l yX11_root (Cond.code yX11_root cX11_root 2 (some .int) :: TB) rm_X11_root (va_Pc [.ref (b + adC 0 0), .int a1] (fun U => RelC D cy b z tx S U U.heap ∧ TxR tx U)) (PiC D cy b z tx k) (XeC D cy b z tx kx) 1 6 (gA b 709 z) := by
  refine vx_ofW (cc := cX11_root) (maxL := 2) (ret := (some .int)) (by decide) rfl ?_
  intro p e s m args below meth c s₁ B hml hexc hv
  obtain ⟨rfl, hR, hT⟩ := hv
  have hX0 := hR.2.2
  have C0 : CallFix p m c cX11_root 2 s _ TB RX11 := ⟨B.exec, B.bytes, hml, findClass_of_methodNamed B.named, fun w hw => atoms_spec B.pre w (List.mem_cons_of_mem _ hw)⟩
  have hr := B.returns
  have hlk := B.notSynchronized
  have hx := C0.1
  have hb := C0.2.1
  have hS : va_S (gA b 709 z) s.heap s.heap [] := va_S.rf
  have hl := lv_entry ([.ref (b + adC 0 0), .int a1]) (n := 2) (Nat.le_of_ble_eq_true rfl)
  rw [lg_entry_eq]
  generalize (lg_sl ([.ref (b + adC 0 0), .int a1]) ++ List.replicate (2 - (lg_sl ([.ref (b + adC 0 0), .int a1])).length) Slot.unset).toArray = ls at hl ⊢
  have hl : lv_has ls 2 [(0, .ref (b + adC 0 0)), (1, .int a1)] := hl
  show W p l e rm_X11_root s m _ below meth c s.heap [] 0 0 (vx_MQ below (PiC D cy b z tx k) (XeC D cy b z tx kx) _ s 1 6 (gA b 709 z)) _
  unfold F_X11_root at h
  refine lv_iload_n hx hb dX11_root_0 rfl (lv_at hl 1 rfl) ?_
  refine lv_if_lt (tgt := 10) hx hb dX11_root_1 (by decide) (fun c1 => ?_) (fun c1 => ?_)
  · have h := h.1 c1
    refine W.widen (k := 0) (n := 0) (Nat.le_of_ble_eq_true rfl) (Nat.le_of_ble_eq_true rfl) ?_
    exact Bw_X11_root_10 C0 hr hlk hT hl0 hX0 hexc S _ _ _ h hR hS (lv_sub hl [] rfl)
  · have h := h.2 c1
    refine lv_iload_n hx hb dX11_root_4 rfl (lv_at hl 1 rfl) ?_
    refine lv_bipush (v := 6) hx hb dX11_root_5 (by decide) ?_
    refine lv_icmp_le (tgt := 18) hx hb dX11_root_7 (by decide) (fun c2 => ?_) (fun c2 => ?_)
    · have h := h.1 c2
      refine lv_aload_n hx hb dX11_root_18 rfl (lv_at hl 0 rfl) ?_
      refine gC_0_4 C0 hR Nat.zero_lt_one tbs_wsX110 mC10_2_213 dX11_root_19 ?_
      have w3 : (S.2 0 0 4) < 3 := hR.2.1.2.1
      refine lv_iload_n hx hb dX11_root_22 rfl (lv_at hl 1 rfl) ?_
      refine qC_Vi (As := [.int a1]) (rest := []) C0 (c_X6_setAsideFrom l w3 h) (cwV 1 C0.2.2.2.2 (tbV mC10_7_36 ⟨mC10_7_37, mC10_7_38, mC10_1_5, mC10_7_39⟩) rfl rfl rfl (by decide +kernel) ⟨Nat.le_of_ble_eq_true rfl, Nat.le_of_ble_eq_true rfl⟩) (rcC_13 hR w3) hR hT hS rfl hl.1 rfl (Nat.le_of_ble_eq_true rfl) dX11_root_23 ⟨Nat.le_of_ble_eq_true rfl, Nat.le_of_ble_eq_true rfl⟩ (fun r4 S5 H locs h hR hS => ?_)
      refine vx_ret (W.widen (k := 1) (n := 6) (Nat.le_of_ble_eq_true rfl) (Nat.le_of_ble_eq_true rfl) ?_); exact rtC_i C0 hr hlk hR hS h dX11_root_26
    · have h := h.2 c2
      refine W.widen (k := 0) (n := 0) (Nat.le_of_ble_eq_true rfl) (Nat.le_of_ble_eq_true rfl) ?_
      exact Bw_X11_root_10 C0 hr hlk hT hl0 hX0 hexc S _ _ _ h hR hS (lv_sub hl [] rfl)

def rm_X6_isOfKind : Room := { frames := 1, cells := 0, slots := 0, locals := 21 }
def F_X6_isOfKind (a0 : Nat) (a1 : Nat) (a2 : Int32) (S : sSt) (k : Int32 → sSt → Prop) : Prop := ((¬ a2 = 4 → ((¬ (S.1 21 a1 5) = 0 → ((¬ a2 = 5 → ((¬ a2 = 6 → ((¬ (S.1 22 (6 * a1) 0) = a2 → k 0 S) ∧ ((S.1 22 (6 * a1) 0) = a2 → k 1 S))) ∧ (a2 = 6 → F_X6_isLate a0 (6 * a1) S (fun r8 S9 => bz r8 (k r8 S9))))) ∧ (a2 = 5 → ((¬ (S.1 22 (6 * a1) 0) = 0 → k 0 S) ∧ ((S.1 22 (6 * a1) 0) = 0 → (((S.1 13 a0 10) < (S.1 22 (6 * a1) 1) → k 0 S) ∧ (¬ (S.1 13 a0 10) < (S.1 22 (6 * a1) 1) → k 1 S))))))) ∧ ((S.1 21 a1 5) = 0 → k 0 S))) ∧ (a2 = 4 → (((S.1 21 a1 4) = (-1) → k 0 S) ∧ (¬ (S.1 21 a1 4) = (-1) → k 1 S))))
set_option maxHeartbeats 4000000 in
set_option maxRecDepth 100000 in
theorem c_X6_isOfKind (l : Launch) {D : va_G} {cy : Nat → ClassId} {b z : Nat} {tx : TX} {a0 : Nat} {a1 : Nat} {a2 : Int32} {S : sSt} {k : Int32 → sSt → Prop} (av0 : a0 < 3) (av1 : a1 < 72) (h : F_X6_isOfKind a0 a1 a2 S k) : Met l yX6_isOfKind (Cond.code yX6_isOfKind cX6_isOfKind 3 (some .boolean) :: TB) rm_X6_isOfKind (va_Pc [.ref (b + adC 13 a0), .ref (b + adC 21 a1), .int a2] (fun U => RelC D cy b z tx S U U.heap ∧ TxR tx U)) (PiC D cy b z tx k) 0 0 (gA b 709 z) := by
  refine Met.ofW (cc := cX6_isOfKind) (maxL := 3) (ret := (some .boolean)) (by decide) rfl ?_
  intro p e s m args below meth c s₁ B hml hv
  obtain ⟨rfl, hR, hT⟩ := hv
  have C0 : CallFix p m c cX6_isOfKind 3 s _ TB RX6 := ⟨B.exec, B.bytes, hml, findClass_of_methodNamed B.named, fun w hw => atoms_spec B.pre w (List.mem_cons_of_mem _ hw)⟩
  have hr := B.returns
  have hlk := B.notSynchronized
  have hx := C0.1
  have hb := C0.2.1
  have hS : va_S (gA b 709 z) s.heap s.heap [] := va_S.rf
  have hl := lv_entry ([.ref (b + adC 13 a0), .ref (b + adC 21 a1), .int a2]) (n := 3) (Nat.le_of_ble_eq_true rfl)
  rw [lg_entry_eq]
  generalize (lg_sl ([.ref (b + adC 13 a0), .ref (b + adC 21 a1), .int a2]) ++ List.replicate (3 - (lg_sl ([.ref (b + adC 13 a0), .ref (b + adC 21 a1), .int a2])).length) Slot.unset).toArray = ls at hl ⊢
  have hl : lv_has ls 3 [(0, .ref (b + adC 13 a0)), (1, .ref (b + adC 21 a1)), (2, .int a2)] := hl
  show W p l e rm_X6_isOfKind s m _ below meth c s.heap [] 0 0 (MQ below (PiC D cy b z tx k) _ s 0 0 (gA b 709 z)) _
  unfold F_X6_isOfKind at h
  refine lv_iload_n hx hb dX6_isOfKind_0 rfl (lv_at hl 2 rfl) ?_
  refine lv_iconst (v := 4) hx hb dX6_isOfKind_1 (by decide) ?_
  refine lv_icmp_ne (tgt := 19) hx hb dX6_isOfKind_2 (by decide) (fun c1 => ?_) (fun c1 => ?_)
  · have h := h.1 c1
    refine lv_aload_n hx hb dX6_isOfKind_19 rfl (lv_at hl 1 rfl) ?_
    refine gCn_21_5 C0 hR av1 tbs_wsX10 mC10_1_225 hT dX6_isOfKind_20 ?_
    refine lv_if_ne (tgt := 28) hx hb dX6_isOfKind_23 (by decide) (fun c2 => ?_) (fun c2 => ?_)
    · have h := h.1 c2
      refine lv_iload_n hx hb dX6_isOfKind_28 rfl (lv_at hl 2 rfl) ?_
      refine lv_iconst (v := 5) hx hb dX6_isOfKind_29 (by decide) ?_
      refine lv_icmp_ne (tgt := 63) hx hb dX6_isOfKind_30 (by decide) (fun c3 => ?_) (fun c3 => ?_)
      · have h := h.1 c3
        refine lv_iload_n hx hb dX6_isOfKind_63 rfl (lv_at hl 2 rfl) ?_
        refine lv_bipush (v := 6) hx hb dX6_isOfKind_64 (by decide) ?_
        refine lv_icmp_ne (tgt := 80) hx hb dX6_isOfKind_66 (by decide) (fun c4 => ?_) (fun c4 => ?_)
        · have h := h.1 c4
          refine lv_aload_n hx hb dX6_isOfKind_80 rfl (lv_at hl 1 rfl) ?_
          refine gCn_21_0 C0 hR av1 tbs_wsX10 mC10_1_212 hT dX6_isOfKind_81 ?_
          have w5 : (6 * a1) < 432 := by omega
          refine gCn_22_0 C0 hR w5 tbs_wsX90 mC10_1_161 hT dX6_isOfKind_84 ?_
          refine lv_iload_n hx hb dX6_isOfKind_87 rfl (lv_at hl 2 rfl) ?_
          refine lv_icmp_ne (tgt := 95) hx hb dX6_isOfKind_88 (by decide) (fun c6 => ?_) (fun c6 => ?_)
          · have h := h.1 c6
            refine lv_iconst (v := 0) hx hb dX6_isOfKind_95 (by decide) ?_
            exact rtC_z C0 hr hlk hR hS (by decide) h dX6_isOfKind_96
          · have h := h.2 c6
            refine lv_iconst (v := 1) hx hb dX6_isOfKind_91 (by decide) ?_
            refine lv_goto (tgt := 96) hx hb dX6_isOfKind_92 (by decide) ?_
            exact rtC_z C0 hr hlk hR hS (by decide) h dX6_isOfKind_96
        · have h := h.2 c4
          refine lv_aload_n hx hb dX6_isOfKind_69 rfl (lv_at hl 0 rfl) ?_
          refine lv_aload_n hx hb dX6_isOfKind_70 rfl (lv_at hl 1 rfl) ?_
          refine gCn_21_0 C0 hR av1 tbs_wsX10 mC10_1_212 hT dX6_isOfKind_71 ?_
          have w7 : (6 * a1) < 432 := by omega
          refine qC_Vi (As := [.ref (b + adC 22 (6 * a1))]) (rest := []) C0 (c_X6_isLate l av0 w7 h) (cwV 1 C0.2.2.2.2 (tbV mC10_5_199 ⟨mC10_5_201, mpC10_1_15, mC10_1_5, mC10_5_202⟩) rfl rfl rfl (by decide +kernel) ⟨Nat.le_of_ble_eq_true rfl, Nat.le_of_ble_eq_true rfl⟩) (rcC_13 hR av0) hR hT hS rfl hl.1 rfl (Nat.le_of_ble_eq_true rfl) dX6_isOfKind_74 ⟨Nat.zero_le _, Nat.zero_le _⟩ (fun r8 S9 H locs h hR hS => ?_)
          refine lv_goto (tgt := 96) hx hb dX6_isOfKind_77 (by decide) ?_
          exact rtC_z C0 hr hlk hR hS h.1 h.2 dX6_isOfKind_96
      · have h := h.2 c3
        refine lv_aload_n hx hb dX6_isOfKind_33 rfl (lv_at hl 1 rfl) ?_
        refine gCn_21_0 C0 hR av1 tbs_wsX10 mC10_1_212 hT dX6_isOfKind_34 ?_
        have w10 : (6 * a1) < 432 := by omega
        refine gCn_22_0 C0 hR w10 tbs_wsX90 mC10_1_161 hT dX6_isOfKind_37 ?_
        refine lv_if_ne (tgt := 61) hx hb dX6_isOfKind_40 (by decide) (fun c11 => ?_) (fun c11 => ?_)
        · have h := h.1 c11
          refine lv_iconst (v := 0) hx hb dX6_isOfKind_61 (by decide) ?_
          exact rtC_z C0 hr hlk hR hS (by decide) h dX6_isOfKind_62
        · have h := h.2 c11
          refine lv_aload_n hx hb dX6_isOfKind_43 rfl (lv_at hl 1 rfl) ?_
          refine gCn_21_0 C0 hR av1 tbs_wsX10 mC10_1_212 hT dX6_isOfKind_44 ?_
          have w12 : (6 * a1) < 432 := by omega
          refine gCn_22_1 C0 hR w12 tbs_wsX90 mC10_1_168 hT dX6_isOfKind_47 ?_
          refine lv_aload_n hx hb dX6_isOfKind_50 rfl (lv_at hl 0 rfl) ?_
          refine gC_13_10 C0 hR av0 tbs_wsX60 mC10_2_160 dX6_isOfKind_51 ?_
          refine lv_icmp_gt (tgt := 61) hx hb dX6_isOfKind_54 (by decide) (fun c13 => ?_) (fun c13 => ?_)
          · have h := h.1 c13
            refine lv_iconst (v := 0) hx hb dX6_isOfKind_61 (by decide) ?_
            exact rtC_z C0 hr hlk hR hS (by decide) h dX6_isOfKind_62
          · have h := h.2 c13
            refine lv_iconst (v := 1) hx hb dX6_isOfKind_57 (by decide) ?_
            refine lv_goto (tgt := 62) hx hb dX6_isOfKind_58 (by decide) ?_
            exact rtC_z C0 hr hlk hR hS (by decide) h dX6_isOfKind_62
    · have h := h.2 c2
      refine lv_iconst (v := 0) hx hb dX6_isOfKind_26 (by decide) ?_
      exact rtC_z C0 hr hlk hR hS (by decide) h dX6_isOfKind_27
  · have h := h.2 c1
    refine lv_aload_n hx hb dX6_isOfKind_5 rfl (lv_at hl 1 rfl) ?_
    refine gCn_21_4 C0 hR av1 tbs_wsX10 mC10_1_221 hT dX6_isOfKind_6 ?_
    refine lv_iconst (v := (-1)) hx hb dX6_isOfKind_9 (by decide) ?_
    refine lv_icmp_eq (tgt := 17) hx hb dX6_isOfKind_10 (by decide) (fun c14 => ?_) (fun c14 => ?_)
    · have h := h.1 c14
      refine lv_iconst (v := 0) hx hb dX6_isOfKind_17 (by decide) ?_
      exact rtC_z C0 hr hlk hR hS (by decide) h dX6_isOfKind_18
    · have h := h.2 c14
      refine lv_iconst (v := 1) hx hb dX6_isOfKind_13 (by decide) ?_
      refine lv_goto (tgt := 18) hx hb dX6_isOfKind_14 (by decide) ?_
      exact rtC_z C0 hr hlk hR hS (by decide) h dX6_isOfKind_18

def rm_X6_numberFound : Room := { frames := 2, cells := 0, slots := 0, locals := 43 }
def B_X6_numberFound_48 (kk5 : Nat → Int32 → Int32 → Int32 → Int32 → sSt → Prop) (a0 : Nat) (a1 : Int32) (a2 : Int32) (a3 : Int32) (a4 : Int32) (S : sSt) (k : Int32 → sSt → Prop) : Prop := ∀ x8 : Int32, x8 = a4 + 1 → kk5 a0 a1 a2 a3 x8 S
set_option maxHeartbeats 4000000 in
set_option maxRecDepth 100000 in
theorem Bw_X6_numberFound_48 {p : Program} {l : Launch} {e : Env} {s : State} {m : MethodId} {args : Array Value} {below : List Frame} {meth : Method} {c : Code} {D : va_G} {cy : Nat → ClassId} {b z : Nat} {tx : TX} (C0 : CallFix p m c cX6_numberFound 5 s args TB RX6) (hr : meth.sig.returnType = (some .int)) (hlk : meth.locks = false) (hT : TxR tx s) {k : Int32 → sSt → Prop} {kk5 : Nat → Int32 → Int32 → Int32 → Int32 → sSt → Prop} (ih5 : ∀ (a0 : Nat) (a1 : Int32) (a2 : Int32) (a3 : Int32) (a4 : Int32) (S : sSt) (H : Heap) (locs : List Loc) (ls : Array Slot) (av0 : a0 < 3), kk5 a0 a1 a2 a3 a4 S → RelC D cy b z tx S s H → va_S (gA b 709 z) s.heap H locs → lv_has ls 5 [(0, .ref (b + adC 13 a0)), (1, .int a1), (2, .int a2), (3, .int a3), (4, .int a4)] → W p l e rm_X6_numberFound s m args below meth c H locs 0 0 (MQ below (PiC D cy b z tx k) args s 0 0 (gA b 709 z)) (F0 m 5 ls [])) : ∀ (a0 : Nat) (a1 : Int32) (a2 : Int32) (a3 : Int32) (a4 : Int32) (S : sSt) (H : Heap) (locs : List Loc) (ls : Array Slot) (av0 : a0 < 3), B_X6_numberFound_48 kk5 a0 a1 a2 a3 a4 S k → RelC D cy b z tx S s H → va_S (gA b 709 z) s.heap H locs → lv_has ls 5 [(0, .ref (b + adC 13 a0)), (1, .int a1), (2, .int a2), (3, .int a3), (4, .int a4)] → W p l e rm_X6_numberFound s m args below meth c H locs 0 0 (MQ below (PiC D cy b z tx k) args s 0 0 (gA b 709 z)) (F0 m 48 ls []) := by
  intro a0 a1 a2 a3 a4 S H locs ls av0 h hR hS hl
  have hx := C0.1
  have hb := C0.2.1
  unfold B_X6_numberFound_48 at h
  obtain ⟨x8, ex8⟩ : ∃ x8 : Int32, x8 = a4 + 1 := ⟨_, rfl⟩
  have h := h x8 ex8
  refine w_iinc (v0 := 1) (lv' := [(4, .int x8), (0, .ref (b + adC 13 a0)), (1, .int a1), (2, .int a2), (3, .int a3)]) C0 dX6_numberFound_48 hl (k := 4) rfl (by decide) (by decide) x8 ex8 rfl (fun ls hl => ?_)
  refine lv_goto (tgt := 5) hx hb dX6_numberFound_51 (by decide) ?_
  exact ih5 a0 a1 a2 a3 x8 S _ _ _ av0 h hR hS (lv_sub hl [1, 2, 3, 4, 0] rfl)
def Bb_X6_numberFound_5 (kk5 : Nat → Int32 → Int32 → Int32 → Int32 → sSt → Prop) (a0 : Nat) (a1 : Int32) (a2 : Int32) (a3 : Int32) (a4 : Int32) (S : sSt) (k : Int32 → sSt → Prop) : Prop := (((S.1 13 a0 6) ≤ a4 → k (-1) S) ∧ (¬ (S.1 13 a0 6) ≤ a4 → ix a4 24 (fun j3 => F_X6_isOfKind a0 (S.2 14 a0 j3) a1 S (fun r5 S6 => ((r5 = 0 → B_X6_numberFound_48 kk5 a0 a1 a2 a3 a4 S6 k) ∧ (¬ r5 = 0 → ((¬ a3 = a2 → ∀ x10 : Int32, x10 = a3 + 1 → B_X6_numberFound_48 kk5 a0 a1 a2 x10 a4 S6 k) ∧ (a3 = a2 → k (S6.1 21 (S6.2 14 a0 j3) 6) S6))))))))
set_option maxHeartbeats 4000000 in
set_option maxRecDepth 100000 in
theorem Bbw_X6_numberFound_5 {p : Program} {l : Launch} {e : Env} {s : State} {m : MethodId} {args : Array Value} {below : List Frame} {meth : Method} {c : Code} {D : va_G} {cy : Nat → ClassId} {b z : Nat} {tx : TX} (C0 : CallFix p m c cX6_numberFound 5 s args TB RX6) (hr : meth.sig.returnType = (some .int)) (hlk : meth.locks = false) (hT : TxR tx s) {k : Int32 → sSt → Prop} {kk5 : Nat → Int32 → Int32 → Int32 → Int32 → sSt → Prop} (ih5 : ∀ (a0 : Nat) (a1 : Int32) (a2 : Int32) (a3 : Int32) (a4 : Int32) (S : sSt) (H : Heap) (locs : List Loc) (ls : Array Slot) (av0 : a0 < 3), kk5 a0 a1 a2 a3 a4 S → RelC D cy b z tx S s H → va_S (gA b 709 z) s.heap H locs → lv_has ls 5 [(0, .ref (b + adC 13 a0)), (1, .int a1), (2, .int a2), (3, .int a3), (4, .int a4)] → W p l e rm_X6_numberFound s m args below meth c H locs 0 0 (MQ below (PiC D cy b z tx k) args s 0 0 (gA b 709 z)) (F0 m 5 ls [])) : ∀ (a0 : Nat) (a1 : Int32) (a2 : Int32) (a3 : Int32) (a4 : Int32) (S : sSt) (H : Heap) (locs : List Loc) (ls : Array Slot) (av0 : a0 < 3), Bb_X6_numberFound_5 kk5 a0 a1 a2 a3 a4 S k → RelC D cy b z tx S s H → va_S (gA b 709 z) s.heap H locs → lv_has ls 5 [(0, .ref (b + adC 13 a0)), (1, .int a1), (2, .int a2), (3, .int a3), (4, .int a4)] → W p l e rm_X6_numberFound s m args below meth c H locs 0 0 (MQ below (PiC D cy b z tx k) args s 0 0 (gA b 709 z)) (F0 m 5 ls []) := by
  intro a0 a1 a2 a3 a4 S H locs ls av0 h hR hS hl
  have hx := C0.1
  have hb := C0.2.1
  unfold Bb_X6_numberFound_5 at h
  refine lv_iload hx hb dX6_numberFound_5 (lv_at hl 4 rfl) ?_
  refine lv_aload_n hx hb dX6_numberFound_7 rfl (lv_at hl 0 rfl) ?_
  refine gC_13_6 C0 hR av0 tbs_wsX60 mC10_2_146 dX6_numberFound_8 ?_
  refine lv_icmp_ge (tgt := 54) hx hb dX6_numberFound_11 (by decide) (fun c1 => ?_) (fun c1 => ?_)
  · have h := h.1 c1
    refine lv_iconst (v := (-1)) hx hb dX6_numberFound_54 (by decide) ?_
    exact rtC_i C0 hr hlk hR hS h dX6_numberFound_55
  · have h := h.2 c1
    refine lv_aload_n hx hb dX6_numberFound_14 rfl (lv_at hl 0 rfl) ?_
    refine lv_aload_n hx hb dX6_numberFound_15 rfl (lv_at hl 0 rfl) ?_
    refine gC_13_0 C0 hR av0 tbs_wsX60 mC10_2_126 dX6_numberFound_16 ?_
    have w2 : a0 < 3 := by omega
    refine lv_iload hx hb dX6_numberFound_19 (lv_at hl 4 rfl) ?_
    obtain ⟨j3, hj3, ej3, h⟩ := h
    refine lC_14 C0 hR w2 hj3 ej3 dX6_numberFound_21 ?_
    have w4 : (S.2 14 a0 j3) < 72 := hR.2.1.1 _ _ w2 hj3
    refine lv_iload_n hx hb dX6_numberFound_22 rfl (lv_at hl 1 rfl) ?_
    refine qC_Vi (As := [.ref (b + adC 21 (S.2 14 a0 j3)), .int a1]) (rest := []) C0 (c_X6_isOfKind l av0 w4 h) (cwV 2 C0.2.2.2.2 (tbV mC10_7_52 ⟨mC10_7_54, mpC10_2_9, mC10_1_5, mC10_7_55⟩) rfl rfl rfl (by decide +kernel) ⟨Nat.le_of_ble_eq_true rfl, Nat.le_of_ble_eq_true rfl⟩) (rcC_13 hR av0) hR hT hS rfl hl.1 rfl (Nat.le_of_ble_eq_true rfl) dX6_numberFound_23 ⟨Nat.zero_le _, Nat.zero_le _⟩ (fun r5 S6 H locs h hR hS => ?_)
    refine lv_if_eq (tgt := 48) hx hb dX6_numberFound_26 (by decide) (fun c7 => ?_) (fun c7 => ?_)
    · have h := h.1 c7
      exact Bw_X6_numberFound_48 C0 hr hlk hT ih5 a0 a1 a2 a3 a4 S6 _ _ _ av0 h hR hS (lv_sub hl [0, 1, 2, 3, 4] rfl)
    · have h := h.2 c7
      refine lv_iload_n hx hb dX6_numberFound_29 rfl (lv_at hl 3 rfl) ?_
      refine lv_iload_n hx hb dX6_numberFound_30 rfl (lv_at hl 2 rfl) ?_
      refine lv_icmp_ne (tgt := 45) hx hb dX6_numberFound_31 (by decide) (fun c9 => ?_) (fun c9 => ?_)
      · have h := h.1 c9
        obtain ⟨x10, ex10⟩ : ∃ x10 : Int32, x10 = a3 + 1 := ⟨_, rfl⟩
        have h := h x10 ex10
        refine w_iinc (v0 := 1) (lv' := [(3, .int x10), (0, .ref (b + adC 13 a0)), (1, .int a1), (2, .int a2), (4, .int a4)]) C0 dX6_numberFound_45 hl (k := 3) rfl (by decide) (by decide) x10 ex10 rfl (fun ls hl => ?_)
        exact Bw_X6_numberFound_48 C0 hr hlk hT ih5 a0 a1 a2 x10 a4 S6 _ _ _ av0 h hR hS (lv_sub hl [1, 2, 3, 0, 4] rfl)
      · have h := h.2 c9
        refine lv_aload_n hx hb dX6_numberFound_34 rfl (lv_at hl 0 rfl) ?_
        refine gC_13_0 C0 hR av0 tbs_wsX60 mC10_2_126 dX6_numberFound_35 ?_
        have w11 : a0 < 3 := by omega
        refine lv_iload hx hb dX6_numberFound_38 (lv_at hl 4 rfl) ?_
        refine lC_14 C0 hR w11 hj3 ej3 dX6_numberFound_40 ?_
        have w12 : (S6.2 14 a0 j3) < 72 := hR.2.1.1 _ _ w11 hj3
        refine gCn_21_6 C0 hR w12 tbs_wsX10 mC10_1_230 hT dX6_numberFound_41 ?_
        exact rtC_i C0 hr hlk hR hS h dX6_numberFound_44
def B_X6_numberFound_5 (n9 : Nat) (a0 : Nat) (a1 : Int32) (a2 : Int32) (a3 : Int32) (a4 : Int32) (S : sSt) (k : Int32 → sSt → Prop) : Prop := (Nat.rec (motive := fun _ => Nat → Int32 → Int32 → Int32 → Int32 → sSt → Prop) (fun _ _ _ _ _ _ => False) (fun _ r9 => fun a0 a1 a2 a3 a4 S => Bb_X6_numberFound_5 r9 a0 a1 a2 a3 a4 S k) n9 : Nat → Int32 → Int32 → Int32 → Int32 → sSt → Prop) a0 a1 a2 a3 a4 S
theorem B_X6_numberFound_5_s (n9 : Nat) (a0 : Nat) (a1 : Int32) (a2 : Int32) (a3 : Int32) (a4 : Int32) (S : sSt) (k : Int32 → sSt → Prop) : B_X6_numberFound_5 (n9 + 1) a0 a1 a2 a3 a4 S k = Bb_X6_numberFound_5 (fun a0 a1 a2 a3 a4 S => B_X6_numberFound_5 n9 a0 a1 a2 a3 a4 S k) a0 a1 a2 a3 a4 S k := rfl
set_option maxHeartbeats 4000000 in
set_option maxRecDepth 100000 in
theorem Bw_X6_numberFound_5 {p : Program} {l : Launch} {e : Env} {s : State} {m : MethodId} {args : Array Value} {below : List Frame} {meth : Method} {c : Code} {D : va_G} {cy : Nat → ClassId} {b z : Nat} {tx : TX} (C0 : CallFix p m c cX6_numberFound 5 s args TB RX6) (hr : meth.sig.returnType = (some .int)) (hlk : meth.locks = false) (hT : TxR tx s) {k : Int32 → sSt → Prop} : ∀ (n9 : Nat), ∀ (a0 : Nat) (a1 : Int32) (a2 : Int32) (a3 : Int32) (a4 : Int32) (S : sSt) (H : Heap) (locs : List Loc) (ls : Array Slot) (av0 : a0 < 3), B_X6_numberFound_5 n9 a0 a1 a2 a3 a4 S k → RelC D cy b z tx S s H → va_S (gA b 709 z) s.heap H locs → lv_has ls 5 [(0, .ref (b + adC 13 a0)), (1, .int a1), (2, .int a2), (3, .int a3), (4, .int a4)] → W p l e rm_X6_numberFound s m args below meth c H locs 0 0 (MQ below (PiC D cy b z tx k) args s 0 0 (gA b 709 z)) (F0 m 5 ls []) := by
  intro n9
  induction n9 with
  | zero => intro a0 a1 a2 a3 a4 S H locs ls av0 h; exact h.elim
  | succ n9 ih =>
    intro a0 a1 a2 a3 a4 S H locs ls av0 h hR hS hl
    exact Bbw_X6_numberFound_5 C0 hr hlk hT ih a0 a1 a2 a3 a4 S H locs ls av0 h hR hS hl
def F_X6_numberFound (a0 : Nat) (a1 : Int32) (a2 : Int32) (S : sSt) (k : Int32 → sSt → Prop) : Prop := B_X6_numberFound_5 fuel a0 a1 a2 0 0 S k
set_option maxHeartbeats 4000000 in
set_option maxRecDepth 100000 in
theorem c_X6_numberFound (l : Launch) {D : va_G} {cy : Nat → ClassId} {b z : Nat} {tx : TX} {a0 : Nat} {a1 : Int32} {a2 : Int32} {S : sSt} {k : Int32 → sSt → Prop} (av0 : a0 < 3) (h : F_X6_numberFound a0 a1 a2 S k) : Met l yX6_numberFound (Cond.code yX6_numberFound cX6_numberFound 5 (some .int) :: TB) rm_X6_numberFound (va_Pc [.ref (b + adC 13 a0), .int a1, .int a2] (fun U => RelC D cy b z tx S U U.heap ∧ TxR tx U)) (PiC D cy b z tx k) 0 0 (gA b 709 z) := by
  refine Met.ofW (cc := cX6_numberFound) (maxL := 5) (ret := (some .int)) (by decide) rfl ?_
  intro p e s m args below meth c s₁ B hml hv
  obtain ⟨rfl, hR, hT⟩ := hv
  have C0 : CallFix p m c cX6_numberFound 5 s _ TB RX6 := ⟨B.exec, B.bytes, hml, findClass_of_methodNamed B.named, fun w hw => atoms_spec B.pre w (List.mem_cons_of_mem _ hw)⟩
  have hr := B.returns
  have hlk := B.notSynchronized
  have hx := C0.1
  have hb := C0.2.1
  have hS : va_S (gA b 709 z) s.heap s.heap [] := va_S.rf
  have hl := lv_entry ([.ref (b + adC 13 a0), .int a1, .int a2]) (n := 5) (Nat.le_of_ble_eq_true rfl)
  rw [lg_entry_eq]
  generalize (lg_sl ([.ref (b + adC 13 a0), .int a1, .int a2]) ++ List.replicate (5 - (lg_sl ([.ref (b + adC 13 a0), .int a1, .int a2])).length) Slot.unset).toArray = ls at hl ⊢
  have hl : lv_has ls 5 [(0, .ref (b + adC 13 a0)), (1, .int a1), (2, .int a2)] := hl
  show W p l e rm_X6_numberFound s m _ below meth c s.heap [] 0 0 (MQ below (PiC D cy b z tx k) _ s 0 0 (gA b 709 z)) _
  unfold F_X6_numberFound at h
  refine lv_iconst (v := 0) hx hb dX6_numberFound_0 (by decide) ?_
  refine lv_istore_n (lv' := [(3, .int 0), (0, .ref (b + adC 13 a0)), (1, .int a1), (2, .int a2)]) hx hb dX6_numberFound_1 rfl hl (by decide) rfl (fun ls hl => ?_)
  refine lv_iconst (v := 0) hx hb dX6_numberFound_2 (by decide) ?_
  refine lv_istore (lv' := [(4, .int 0), (3, .int 0), (0, .ref (b + adC 13 a0)), (1, .int a1), (2, .int a2)]) hx hb dX6_numberFound_3 hl (by decide) rfl (fun ls hl => ?_)
  exact Bw_X6_numberFound_5 C0 hr hlk hT fuel a0 a1 a2 0 0 S _ _ _ av0 h hR hS (lv_sub hl [2, 3, 4, 1, 0] rfl)

def rm_X11_find : Room := { frames := 6, cells := 1, slots := 6, locals := 89 }
def B_X11_find_10 (S : sSt) (k : Int32 → sSt → Prop) (kx : String → sSt → Prop) : Prop := kx "java/util/NoSuchElementException" S
set_option maxHeartbeats 4000000 in
set_option maxRecDepth 100000 in
theorem Bw_X11_find_10 {p : Program} {l : Launch} {e : Env} {s : State} {m : MethodId} {args : Array Value} {below : List Frame} {meth : Method} {c : Code} {D : va_G} {cy : Nat → ClassId} {b z : Nat} {tx : TX} (C0 : CallFix p m c cX11_find 3 s args TB RX11) (hr : meth.sig.returnType = (some .int)) (hlk : meth.locks = false) (hT : TxR tx s) (hl0 : l.stackTraces = false) (hX0 : TxP tx b z s s.heap) (hexc : ∀ x ∈ c.exceptionTable.toList, False) {k : Int32 → sSt → Prop} {kx : String → sSt → Prop} : ∀ (S : sSt) (H : Heap) (locs : List Loc) (ls : Array Slot) , B_X11_find_10 S k kx → RelC D cy b z tx S s H → va_S (gA b 709 z) s.heap H locs → lv_has ls 3 [] → W p l e rm_X11_find s m args below meth c H locs 0 0 (vx_MQ below (PiC D cy b z tx k) (XeC D cy b z tx kx) args s 1 6 (gA b 709 z)) (F0 m 10 ls []) := by
  intro S H locs ls h hR hS hl
  have hx := C0.1
  have hb := C0.2.1
  unfold B_X11_find_10 at h
  exact w_throw_4 C0 hl0 hX0 hT hR hS hl.1 hexc hlk h mC10_6_46 mC10_1_26 dX11_find_10 dX11_find_13 dX11_find_14 dX11_find_17 (Nat.le_of_ble_eq_true rfl) (Nat.le_of_ble_eq_true rfl) (Nat.le_of_ble_eq_true rfl) (Nat.le_of_ble_eq_true rfl) (Nat.le_of_ble_eq_true rfl) (Nat.le_of_ble_eq_true rfl)
def F_X11_find (a1 : Int32) (a2 : Int32) (S : sSt) (k : Int32 → sSt → Prop) (kx : String → sSt → Prop) : Prop := ((a1 < 0 → B_X11_find_10 S k kx) ∧ (¬ a1 < 0 → ((a1 ≤ 6 → F_X6_numberFound (S.2 0 0 4) a1 a2 S (fun r4 S5 => k r4 S5)) ∧ (¬ a1 ≤ 6 → B_X11_find_10 S k kx))))
set_option maxHeartbeats 4000000 in
set_option maxRecDepth 100000 in
theorem c_X11_find (l : Launch) (hl0 : l.stackTraces = false) {D : va_G} {cy : Nat → ClassId} {b z : Nat} {tx : TX} {a1 : Int32} {a2 : Int32} {S : sSt} {k : Int32 → sSt → Prop} {kx : String → sSt → Prop} (h : F_X11_find a1 a2 S k kx) : vx_Met l yX11_find (Cond.code yX11_find cX11_find 3 (some .int) :: TB) rm_X11_find (va_Pc [.ref (b + adC 0 0), .int a1, .int a2] (fun U => RelC D cy b z tx S U U.heap ∧ TxR tx U)) (PiC D cy b z tx k) (XeC D cy b z tx kx) 1 6 (gA b 709 z) := by
  refine vx_ofW (cc := cX11_find) (maxL := 3) (ret := (some .int)) (by decide) rfl ?_
  intro p e s m args below meth c s₁ B hml hexc hv
  obtain ⟨rfl, hR, hT⟩ := hv
  have hX0 := hR.2.2
  have C0 : CallFix p m c cX11_find 3 s _ TB RX11 := ⟨B.exec, B.bytes, hml, findClass_of_methodNamed B.named, fun w hw => atoms_spec B.pre w (List.mem_cons_of_mem _ hw)⟩
  have hr := B.returns
  have hlk := B.notSynchronized
  have hx := C0.1
  have hb := C0.2.1
  have hS : va_S (gA b 709 z) s.heap s.heap [] := va_S.rf
  have hl := lv_entry ([.ref (b + adC 0 0), .int a1, .int a2]) (n := 3) (Nat.le_of_ble_eq_true rfl)
  rw [lg_entry_eq]
  generalize (lg_sl ([.ref (b + adC 0 0), .int a1, .int a2]) ++ List.replicate (3 - (lg_sl ([.ref (b + adC 0 0), .int a1, .int a2])).length) Slot.unset).toArray = ls at hl ⊢
  have hl : lv_has ls 3 [(0, .ref (b + adC 0 0)), (1, .int a1), (2, .int a2)] := hl
  show W p l e rm_X11_find s m _ below meth c s.heap [] 0 0 (vx_MQ below (PiC D cy b z tx k) (XeC D cy b z tx kx) _ s 1 6 (gA b 709 z)) _
  unfold F_X11_find at h
  refine lv_iload_n hx hb dX11_find_0 rfl (lv_at hl 1 rfl) ?_
  refine lv_if_lt (tgt := 10) hx hb dX11_find_1 (by decide) (fun c1 => ?_) (fun c1 => ?_)
  · have h := h.1 c1
    refine W.widen (k := 0) (n := 0) (Nat.le_of_ble_eq_true rfl) (Nat.le_of_ble_eq_true rfl) ?_
    exact Bw_X11_find_10 C0 hr hlk hT hl0 hX0 hexc S _ _ _ h hR hS (lv_sub hl [] rfl)
  · have h := h.2 c1
    refine lv_iload_n hx hb dX11_find_4 rfl (lv_at hl 1 rfl) ?_
    refine lv_bipush (v := 6) hx hb dX11_find_5 (by decide) ?_
    refine lv_icmp_le (tgt := 18) hx hb dX11_find_7 (by decide) (fun c2 => ?_) (fun c2 => ?_)
    · have h := h.1 c2
      refine lv_aload_n hx hb dX11_find_18 rfl (lv_at hl 0 rfl) ?_
      refine gC_0_4 C0 hR Nat.zero_lt_one tbs_wsX110 mC10_2_213 dX11_find_19 ?_
      have w3 : (S.2 0 0 4) < 3 := hR.2.1.2.1
      refine lv_iload_n hx hb dX11_find_22 rfl (lv_at hl 1 rfl) ?_
      refine lv_iload_n hx hb dX11_find_23 rfl (lv_at hl 2 rfl) ?_
      refine qC_Vi (As := [.int a1, .int a2]) (rest := []) C0 (c_X6_numberFound l w3 h) (cwV 2 C0.2.2.2.2 (tbV mC10_7_48 ⟨mC10_7_49, mC10_7_50, mC10_1_5, mC10_7_51⟩) rfl rfl rfl (by decide +kernel) ⟨Nat.le_of_ble_eq_true rfl, Nat.le_of_ble_eq_true rfl⟩) (rcC_13 hR w3) hR hT hS rfl hl.1 rfl (Nat.le_of_ble_eq_true rfl) dX11_find_24 ⟨Nat.le_of_ble_eq_true rfl, Nat.le_of_ble_eq_true rfl⟩ (fun r4 S5 H locs h hR hS => ?_)
      refine vx_ret (W.widen (k := 1) (n := 6) (Nat.le_of_ble_eq_true rfl) (Nat.le_of_ble_eq_true rfl) ?_); exact rtC_i C0 hr hlk hR hS h dX11_find_27
    · have h := h.2 c2
      refine W.widen (k := 0) (n := 0) (Nat.le_of_ble_eq_true rfl) (Nat.le_of_ble_eq_true rfl) ?_
      exact Bw_X11_find_10 C0 hr hlk hT hl0 hX0 hexc S _ _ _ h hR hS (lv_sub hl [] rfl)

def rm_X11_log : Room := { frames := 6, cells := 1, slots := 6, locals := 89 }
def B_X11_log_9 (S : sSt) (k : Int32 → sSt → Prop) (kx : String → sSt → Prop) : Prop := kx "java/util/NoSuchElementException" S
set_option maxHeartbeats 4000000 in
set_option maxRecDepth 100000 in
theorem Bw_X11_log_9 {p : Program} {l : Launch} {e : Env} {s : State} {m : MethodId} {args : Array Value} {below : List Frame} {meth : Method} {c : Code} {D : va_G} {cy : Nat → ClassId} {b z : Nat} {tx : TX} (C0 : CallFix p m c cX11_log 3 s args TB RX11) (hr : meth.sig.returnType = (some .int)) (hlk : meth.locks = false) (hT : TxR tx s) (hl0 : l.stackTraces = false) (hX0 : TxP tx b z s s.heap) (hexc : ∀ x ∈ c.exceptionTable.toList, False) {k : Int32 → sSt → Prop} {kx : String → sSt → Prop} : ∀ (S : sSt) (H : Heap) (locs : List Loc) (ls : Array Slot) , B_X11_log_9 S k kx → RelC D cy b z tx S s H → va_S (gA b 709 z) s.heap H locs → lv_has ls 3 [] → W p l e rm_X11_log s m args below meth c H locs 0 0 (vx_MQ below (PiC D cy b z tx k) (XeC D cy b z tx kx) args s 1 6 (gA b 709 z)) (F0 m 9 ls []) := by
  intro S H locs ls h hR hS hl
  have hx := C0.1
  have hb := C0.2.1
  unfold B_X11_log_9 at h
  exact w_throw_4 C0 hl0 hX0 hT hR hS hl.1 hexc hlk h mC10_6_46 mC10_1_26 dX11_log_9 dX11_log_12 dX11_log_13 dX11_log_16 (Nat.le_of_ble_eq_true rfl) (Nat.le_of_ble_eq_true rfl) (Nat.le_of_ble_eq_true rfl) (Nat.le_of_ble_eq_true rfl) (Nat.le_of_ble_eq_true rfl) (Nat.le_of_ble_eq_true rfl)
def F_X11_log (a1 : Int32) (a2 : Int32) (S : sSt) (k : Int32 → sSt → Prop) (kx : String → sSt → Prop) : Prop := ((a2 < 0 → B_X11_log_9 S k kx) ∧ (¬ a2 < 0 → ((a2 < 5 → ((0 ≤ a1 → F_X2_cell (S.2 0 0 4) (((S.1 19 (S.2 0 0 4) 2) - 1) - a1) a2 S (fun r8 S9 => k r8 S9)) ∧ (¬ 0 ≤ a1 → k (-1) S))) ∧ (¬ a2 < 5 → B_X11_log_9 S k kx))))
set_option maxHeartbeats 4000000 in
set_option maxRecDepth 100000 in
theorem c_X11_log (l : Launch) (hl0 : l.stackTraces = false) {D : va_G} {cy : Nat → ClassId} {b z : Nat} {tx : TX} {a1 : Int32} {a2 : Int32} {S : sSt} {k : Int32 → sSt → Prop} {kx : String → sSt → Prop} (h : F_X11_log a1 a2 S k kx) : vx_Met l yX11_log (Cond.code yX11_log cX11_log 3 (some .int) :: TB) rm_X11_log (va_Pc [.ref (b + adC 0 0), .int a1, .int a2] (fun U => RelC D cy b z tx S U U.heap ∧ TxR tx U)) (PiC D cy b z tx k) (XeC D cy b z tx kx) 1 6 (gA b 709 z) := by
  refine vx_ofW (cc := cX11_log) (maxL := 3) (ret := (some .int)) (by decide) rfl ?_
  intro p e s m args below meth c s₁ B hml hexc hv
  obtain ⟨rfl, hR, hT⟩ := hv
  have hX0 := hR.2.2
  have C0 : CallFix p m c cX11_log 3 s _ TB RX11 := ⟨B.exec, B.bytes, hml, findClass_of_methodNamed B.named, fun w hw => atoms_spec B.pre w (List.mem_cons_of_mem _ hw)⟩
  have hr := B.returns
  have hlk := B.notSynchronized
  have hx := C0.1
  have hb := C0.2.1
  have hS : va_S (gA b 709 z) s.heap s.heap [] := va_S.rf
  have hl := lv_entry ([.ref (b + adC 0 0), .int a1, .int a2]) (n := 3) (Nat.le_of_ble_eq_true rfl)
  rw [lg_entry_eq]
  generalize (lg_sl ([.ref (b + adC 0 0), .int a1, .int a2]) ++ List.replicate (3 - (lg_sl ([.ref (b + adC 0 0), .int a1, .int a2])).length) Slot.unset).toArray = ls at hl ⊢
  have hl : lv_has ls 3 [(0, .ref (b + adC 0 0)), (1, .int a1), (2, .int a2)] := hl
  show W p l e rm_X11_log s m _ below meth c s.heap [] 0 0 (vx_MQ below (PiC D cy b z tx k) (XeC D cy b z tx kx) _ s 1 6 (gA b 709 z)) _
  unfold F_X11_log at h
  refine lv_iload_n hx hb dX11_log_0 rfl (lv_at hl 2 rfl) ?_
  refine lv_if_lt (tgt := 9) hx hb dX11_log_1 (by decide) (fun c1 => ?_) (fun c1 => ?_)
  · have h := h.1 c1
    refine W.widen (k := 0) (n := 0) (Nat.le_of_ble_eq_true rfl) (Nat.le_of_ble_eq_true rfl) ?_
    exact Bw_X11_log_9 C0 hr hlk hT hl0 hX0 hexc S _ _ _ h hR hS (lv_sub hl [] rfl)
  · have h := h.2 c1
    refine lv_iload_n hx hb dX11_log_4 rfl (lv_at hl 2 rfl) ?_
    refine lv_iconst (v := 5) hx hb dX11_log_5 (by decide) ?_
    refine lv_icmp_lt (tgt := 17) hx hb dX11_log_6 (by decide) (fun c2 => ?_) (fun c2 => ?_)
    · have h := h.1 c2
      refine lv_iload_n hx hb dX11_log_17 rfl (lv_at hl 1 rfl) ?_
      refine lv_if_ge (tgt := 25) hx hb dX11_log_18 (by decide) (fun c3 => ?_) (fun c3 => ?_)
      · have h := h.1 c3
        refine lv_aload_n hx hb dX11_log_25 rfl (lv_at hl 0 rfl) ?_
        refine gC_0_4 C0 hR Nat.zero_lt_one tbs_wsX110 mC10_2_213 dX11_log_26 ?_
        have w4 : (S.2 0 0 4) < 3 := hR.2.1.2.1
        refine gCn_13_5 C0 hR w4 tbs_wsX60 mC10_2_145 hT dX11_log_29 ?_
        have w5 : (S.2 0 0 4) < 3 := by omega
        refine lv_aload_n hx hb dX11_log_32 rfl (lv_at hl 0 rfl) ?_
        refine gC_0_4 C0 hR Nat.zero_lt_one tbs_wsX110 mC10_2_213 dX11_log_33 ?_
        have w6 : (S.2 0 0 4) < 3 := hR.2.1.2.1
        refine gCn_13_5 C0 hR w6 tbs_wsX60 mC10_2_145 hT dX11_log_36 ?_
        have w7 : (S.2 0 0 4) < 3 := by omega
        refine gCn_19_2 C0 hR w7 tbs_wsX20 mC10_1_138 hT dX11_log_39 ?_
        refine lv_iconst (v := 1) hx hb dX11_log_42 (by decide) ?_
        refine lv_isub hx hb dX11_log_43 ?_
        refine lv_iload_n hx hb dX11_log_44 rfl (lv_at hl 1 rfl) ?_
        refine lv_isub hx hb dX11_log_45 ?_
        refine lv_iload_n hx hb dX11_log_46 rfl (lv_at hl 2 rfl) ?_
        refine qC_Vi (As := [.int (((S.1 19 (S.2 0 0 4) 2) - 1) - a1), .int a2]) (rest := []) C0 (c_X2_cell l w5 h) (cwV 2 C0.2.2.2.2 (tbV mC10_7_63 ⟨mC10_3_39, mC10_3_40, mC10_1_6, mC10_3_41⟩) rfl rfl rfl (by decide +kernel) ⟨Nat.le_of_ble_eq_true rfl, Nat.le_of_ble_eq_true rfl⟩) (rcC_19 hR w5) hR hT hS rfl hl.1 rfl (Nat.le_of_ble_eq_true rfl) dX11_log_47 ⟨Nat.le_of_ble_eq_true rfl, Nat.le_of_ble_eq_true rfl⟩ (fun r8 S9 H locs h hR hS => ?_)
        refine vx_ret (W.widen (k := 1) (n := 6) (Nat.le_of_ble_eq_true rfl) (Nat.le_of_ble_eq_true rfl) ?_); exact rtC_i C0 hr hlk hR hS h dX11_log_50
      · have h := h.2 c3
        refine lv_iconst (v := (-1)) hx hb dX11_log_21 (by decide) ?_
        refine lv_goto (tgt := 50) hx hb dX11_log_22 (by decide) ?_
        refine vx_ret (W.widen (k := 1) (n := 6) (Nat.le_of_ble_eq_true rfl) (Nat.le_of_ble_eq_true rfl) ?_); exact rtC_i C0 hr hlk hR hS h dX11_log_50
    · have h := h.2 c2
      refine W.widen (k := 0) (n := 0) (Nat.le_of_ble_eq_true rfl) (Nat.le_of_ble_eq_true rfl) ?_
      exact Bw_X11_log_9 C0 hr hlk hT hl0 hX0 hexc S _ _ _ h hR hS (lv_sub hl [] rfl)

def rm_X11_image : Room := { frames := 3, cells := 0, slots := 0, locals := 83 }
def F_X11_image (S : sSt) (k : sSt → Prop) : Prop := F_X6_copyFrom 0 (S.2 0 0 4) S (fun S3 => ∀ S4, S4 = uI S3 0 0 6 1 → k S4)
set_option maxHeartbeats 4000000 in
set_option maxRecDepth 100000 in
theorem c_X11_image (l : Launch) {D : va_G} {cy : Nat → ClassId} {b z : Nat} {tx : TX} {S : sSt} {k : sSt → Prop} (h : F_X11_image S k) : Met l yX11_image (Cond.code yX11_image cX11_image 1 none :: TB) rm_X11_image (va_Pc [.ref (b + adC 0 0)] (fun U => RelC D cy b z tx S U U.heap ∧ TxR tx U)) (PvC D cy b z tx k) 0 0 (gA b 709 z) := by
  refine Met.ofW (cc := cX11_image) (maxL := 1) (ret := none) (by decide) rfl ?_
  intro p e s m args below meth c s₁ B hml hv
  obtain ⟨rfl, hR, hT⟩ := hv
  have C0 : CallFix p m c cX11_image 1 s _ TB RX11 := ⟨B.exec, B.bytes, hml, findClass_of_methodNamed B.named, fun w hw => atoms_spec B.pre w (List.mem_cons_of_mem _ hw)⟩
  have hr := B.returns
  have hlk := B.notSynchronized
  have hx := C0.1
  have hb := C0.2.1
  have hS : va_S (gA b 709 z) s.heap s.heap [] := va_S.rf
  have hl := lv_entry ([.ref (b + adC 0 0)]) (n := 1) (Nat.le_of_ble_eq_true rfl)
  rw [lg_entry_eq]
  generalize (lg_sl ([.ref (b + adC 0 0)]) ++ List.replicate (1 - (lg_sl ([.ref (b + adC 0 0)])).length) Slot.unset).toArray = ls at hl ⊢
  have hl : lv_has ls 1 [(0, .ref (b + adC 0 0))] := hl
  show W p l e rm_X11_image s m _ below meth c s.heap [] 0 0 (MQ below (PvC D cy b z tx k) _ s 0 0 (gA b 709 z)) _
  unfold F_X11_image at h
  refine lv_aload_n hx hb dX11_image_0 rfl (lv_at hl 0 rfl) ?_
  refine gC_0_3 C0 hR Nat.zero_lt_one tbs_wsX110 mC10_2_212 dX11_image_1 ?_
  refine lv_aload_n hx hb dX11_image_4 rfl (lv_at hl 0 rfl) ?_
  refine gC_0_4 C0 hR Nat.zero_lt_one tbs_wsX110 mC10_2_213 dX11_image_5 ?_
  have w1 : (S.2 0 0 4) < 3 := hR.2.1.2.1
  refine qC_Vv (As := [.ref (b + adC 13 (S.2 0 0 4))]) (rest := []) C0 (c_X6_copyFrom l (by decide) w1 h) (cwV 1 C0.2.2.2.2 (tbV mC10_3_53 ⟨mC10_3_54, mC10_3_55, mC10_1_5, mC10_3_56⟩) rfl rfl rfl (by decide +kernel) ⟨Nat.le_of_ble_eq_true rfl, Nat.le_of_ble_eq_true rfl⟩) (rcC_13 hR (by decide)) hR hT hS rfl hl.1 rfl (Nat.le_of_ble_eq_true rfl) dX11_image_8 ⟨Nat.zero_le _, Nat.zero_le _⟩ (fun S3 H locs h hR hS => ?_)
  refine lv_aload_n hx hb dX11_image_11 rfl (lv_at hl 0 rfl) ?_
  refine lv_iconst (v := 1) hx hb dX11_image_12 (by decide) ?_
  refine pC_0_6 C0 hR hS Nat.zero_lt_one tbs_wsX110 mC10_2_215 (by decide) dX11_image_13 (fun S4 eS4 H locs hR hS => ?_)
  have h := h S4 eS4
  exact rtC_v C0 hr hlk hR hS h dX11_image_16

def rm_X11_back : Room := { frames := 3, cells := 0, slots := 0, locals := 83 }
def F_X11_back (S : sSt) (k : Int32 → sSt → Prop) : Prop := ((¬ (S.1 0 0 6) = 0 → F_X6_copyFrom (S.2 0 0 4) 0 S (fun S4 => k 1 S4)) ∧ ((S.1 0 0 6) = 0 → k 0 S))
set_option maxHeartbeats 4000000 in
set_option maxRecDepth 100000 in
theorem c_X11_back (l : Launch) {D : va_G} {cy : Nat → ClassId} {b z : Nat} {tx : TX} {S : sSt} {k : Int32 → sSt → Prop} (h : F_X11_back S k) : Met l yX11_back (Cond.code yX11_back cX11_back 1 (some .boolean) :: TB) rm_X11_back (va_Pc [.ref (b + adC 0 0)] (fun U => RelC D cy b z tx S U U.heap ∧ TxR tx U)) (PiC D cy b z tx k) 0 0 (gA b 709 z) := by
  refine Met.ofW (cc := cX11_back) (maxL := 1) (ret := (some .boolean)) (by decide) rfl ?_
  intro p e s m args below meth c s₁ B hml hv
  obtain ⟨rfl, hR, hT⟩ := hv
  have C0 : CallFix p m c cX11_back 1 s _ TB RX11 := ⟨B.exec, B.bytes, hml, findClass_of_methodNamed B.named, fun w hw => atoms_spec B.pre w (List.mem_cons_of_mem _ hw)⟩
  have hr := B.returns
  have hlk := B.notSynchronized
  have hx := C0.1
  have hb := C0.2.1
  have hS : va_S (gA b 709 z) s.heap s.heap [] := va_S.rf
  have hl := lv_entry ([.ref (b + adC 0 0)]) (n := 1) (Nat.le_of_ble_eq_true rfl)
  rw [lg_entry_eq]
  generalize (lg_sl ([.ref (b + adC 0 0)]) ++ List.replicate (1 - (lg_sl ([.ref (b + adC 0 0)])).length) Slot.unset).toArray = ls at hl ⊢
  have hl : lv_has ls 1 [(0, .ref (b + adC 0 0))] := hl
  show W p l e rm_X11_back s m _ below meth c s.heap [] 0 0 (MQ below (PiC D cy b z tx k) _ s 0 0 (gA b 709 z)) _
  unfold F_X11_back at h
  refine lv_aload_n hx hb dX11_back_0 rfl (lv_at hl 0 rfl) ?_
  refine gC_0_6 C0 hR Nat.zero_lt_one tbs_wsX110 mC10_2_215 dX11_back_1 ?_
  refine lv_if_ne (tgt := 9) hx hb dX11_back_4 (by decide) (fun c1 => ?_) (fun c1 => ?_)
  · have h := h.1 c1
    refine lv_aload_n hx hb dX11_back_9 rfl (lv_at hl 0 rfl) ?_
    refine gC_0_4 C0 hR Nat.zero_lt_one tbs_wsX110 mC10_2_213 dX11_back_10 ?_
    have w2 : (S.2 0 0 4) < 3 := hR.2.1.2.1
    refine lv_aload_n hx hb dX11_back_13 rfl (lv_at hl 0 rfl) ?_
    refine gC_0_3 C0 hR Nat.zero_lt_one tbs_wsX110 mC10_2_212 dX11_back_14 ?_
    refine qC_Vv (As := [.ref (b + adC 13 0)]) (rest := []) C0 (c_X6_copyFrom l w2 (by decide) h) (cwV 1 C0.2.2.2.2 (tbV mC10_3_53 ⟨mC10_3_54, mC10_3_55, mC10_1_5, mC10_3_56⟩) rfl rfl rfl (by decide +kernel) ⟨Nat.le_of_ble_eq_true rfl, Nat.le_of_ble_eq_true rfl⟩) (rcC_13 hR w2) hR hT hS rfl hl.1 rfl (Nat.le_of_ble_eq_true rfl) dX11_back_17 ⟨Nat.zero_le _, Nat.zero_le _⟩ (fun S4 H locs h hR hS => ?_)
    refine lv_iconst (v := 1) hx hb dX11_back_20 (by decide) ?_
    exact rtC_z C0 hr hlk hR hS (by decide) h dX11_back_21
  · have h := h.2 c1
    refine lv_iconst (v := 0) hx hb dX11_back_7 (by decide) ?_
    exact rtC_z C0 hr hlk hR hS (by decide) h dX11_back_8

def rm_X6_storedJobs : Room := { frames := 0, cells := 0, slots := 0, locals := 0 }
def B_X6_storedJobs_30 (kk4 : Nat → Int32 → Int32 → sSt → Prop) (a0 : Nat) (a2 : Int32) (t0 : Int32) (t1 : Int32) (S : sSt) (k : Int32 → sSt → Prop) : Prop := ∀ x6 : Int32, x6 = (t0 + t1) → ∀ x7 : Int32, x7 = a2 + 1 → kk4 a0 x6 x7 S
set_option maxHeartbeats 4000000 in
set_option maxRecDepth 100000 in
theorem Bw_X6_storedJobs_30 {p : Program} {l : Launch} {e : Env} {s : State} {m : MethodId} {args : Array Value} {below : List Frame} {meth : Method} {c : Code} {D : va_G} {cy : Nat → ClassId} {b z : Nat} {tx : TX} (C0 : CallFix p m c cX6_storedJobs 3 s args TB RX6) (hr : meth.sig.returnType = (some .int)) (hlk : meth.locks = false) (hT : TxR tx s) {k : Int32 → sSt → Prop} {kk4 : Nat → Int32 → Int32 → sSt → Prop} (ih4 : ∀ (a0 : Nat) (a1 : Int32) (a2 : Int32) (S : sSt) (H : Heap) (locs : List Loc) (ls : Array Slot) (av0 : a0 < 3), kk4 a0 a1 a2 S → RelC D cy b z tx S s H → va_S (gA b 709 z) s.heap H locs → lv_has ls 3 [(0, .ref (b + adC 13 a0)), (1, .int a1), (2, .int a2)] → W p l e rm_X6_storedJobs s m args below meth c H locs 0 0 (MQ below (PiC D cy b z tx k) args s 0 0 (gA b 709 z)) (F0 m 4 ls [])) : ∀ (a0 : Nat) (a2 : Int32) (t0 : Int32) (t1 : Int32) (S : sSt) (H : Heap) (locs : List Loc) (ls : Array Slot) (av0 : a0 < 3), B_X6_storedJobs_30 kk4 a0 a2 t0 t1 S k → RelC D cy b z tx S s H → va_S (gA b 709 z) s.heap H locs → lv_has ls 3 [(0, .ref (b + adC 13 a0)), (2, .int a2)] → W p l e rm_X6_storedJobs s m args below meth c H locs 0 0 (MQ below (PiC D cy b z tx k) args s 0 0 (gA b 709 z)) (F0 m 30 ls [.int t1, .int t0]) := by
  intro a0 a2 t0 t1 S H locs ls av0 h hR hS hl
  have hx := C0.1
  have hb := C0.2.1
  unfold B_X6_storedJobs_30 at h
  refine lv_iadd hx hb dX6_storedJobs_30 ?_
  refine lv_topi (fun x6 ex6 => ?_)
  have h := h x6 ex6
  refine lv_istore_n (lv' := [(1, .int x6), (0, .ref (b + adC 13 a0)), (2, .int a2)]) hx hb dX6_storedJobs_31 rfl hl (by decide) rfl (fun ls hl => ?_)
  obtain ⟨x7, ex7⟩ : ∃ x7 : Int32, x7 = a2 + 1 := ⟨_, rfl⟩
  have h := h x7 ex7
  refine w_iinc (v0 := 1) (lv' := [(2, .int x7), (1, .int x6), (0, .ref (b + adC 13 a0))]) C0 dX6_storedJobs_32 hl (k := 2) rfl (by decide) (by decide) x7 ex7 rfl (fun ls hl => ?_)
  refine lv_goto (tgt := 4) hx hb dX6_storedJobs_35 (by decide) ?_
  exact ih4 a0 x6 x7 S _ _ _ av0 h hR hS (lv_sub hl [2, 1, 0] rfl)
def Bb_X6_storedJobs_4 (kk4 : Nat → Int32 → Int32 → sSt → Prop) (a0 : Nat) (a1 : Int32) (a2 : Int32) (S : sSt) (k : Int32 → sSt → Prop) : Prop := (((S.1 13 a0 6) ≤ a2 → k a1 S) ∧ (¬ (S.1 13 a0 6) ≤ a2 → ix a2 24 (fun j3 => (((S.1 21 (S.2 14 a0 j3) 5) = 0 → B_X6_storedJobs_30 kk4 a0 a2 a1 0 S k) ∧ (¬ (S.1 21 (S.2 14 a0 j3) 5) = 0 → B_X6_storedJobs_30 kk4 a0 a2 a1 1 S k)))))
set_option maxHeartbeats 4000000 in
set_option maxRecDepth 100000 in
theorem Bbw_X6_storedJobs_4 {p : Program} {l : Launch} {e : Env} {s : State} {m : MethodId} {args : Array Value} {below : List Frame} {meth : Method} {c : Code} {D : va_G} {cy : Nat → ClassId} {b z : Nat} {tx : TX} (C0 : CallFix p m c cX6_storedJobs 3 s args TB RX6) (hr : meth.sig.returnType = (some .int)) (hlk : meth.locks = false) (hT : TxR tx s) {k : Int32 → sSt → Prop} {kk4 : Nat → Int32 → Int32 → sSt → Prop} (ih4 : ∀ (a0 : Nat) (a1 : Int32) (a2 : Int32) (S : sSt) (H : Heap) (locs : List Loc) (ls : Array Slot) (av0 : a0 < 3), kk4 a0 a1 a2 S → RelC D cy b z tx S s H → va_S (gA b 709 z) s.heap H locs → lv_has ls 3 [(0, .ref (b + adC 13 a0)), (1, .int a1), (2, .int a2)] → W p l e rm_X6_storedJobs s m args below meth c H locs 0 0 (MQ below (PiC D cy b z tx k) args s 0 0 (gA b 709 z)) (F0 m 4 ls [])) : ∀ (a0 : Nat) (a1 : Int32) (a2 : Int32) (S : sSt) (H : Heap) (locs : List Loc) (ls : Array Slot) (av0 : a0 < 3), Bb_X6_storedJobs_4 kk4 a0 a1 a2 S k → RelC D cy b z tx S s H → va_S (gA b 709 z) s.heap H locs → lv_has ls 3 [(0, .ref (b + adC 13 a0)), (1, .int a1), (2, .int a2)] → W p l e rm_X6_storedJobs s m args below meth c H locs 0 0 (MQ below (PiC D cy b z tx k) args s 0 0 (gA b 709 z)) (F0 m 4 ls []) := by
  intro a0 a1 a2 S H locs ls av0 h hR hS hl
  have hx := C0.1
  have hb := C0.2.1
  unfold Bb_X6_storedJobs_4 at h
  refine lv_iload_n hx hb dX6_storedJobs_4 rfl (lv_at hl 2 rfl) ?_
  refine lv_aload_n hx hb dX6_storedJobs_5 rfl (lv_at hl 0 rfl) ?_
  refine gC_13_6 C0 hR av0 tbs_wsX60 mC10_2_146 dX6_storedJobs_6 ?_
  refine lv_icmp_ge (tgt := 38) hx hb dX6_storedJobs_9 (by decide) (fun c1 => ?_) (fun c1 => ?_)
  · have h := h.1 c1
    refine lv_iload_n hx hb dX6_storedJobs_38 rfl (lv_at hl 1 rfl) ?_
    exact rtC_i C0 hr hlk hR hS h dX6_storedJobs_39
  · have h := h.2 c1
    refine lv_iload_n hx hb dX6_storedJobs_12 rfl (lv_at hl 1 rfl) ?_
    refine lv_aload_n hx hb dX6_storedJobs_13 rfl (lv_at hl 0 rfl) ?_
    refine gC_13_0 C0 hR av0 tbs_wsX60 mC10_2_126 dX6_storedJobs_14 ?_
    have w2 : a0 < 3 := by omega
    refine lv_iload_n hx hb dX6_storedJobs_17 rfl (lv_at hl 2 rfl) ?_
    obtain ⟨j3, hj3, ej3, h⟩ := h
    refine lC_14 C0 hR w2 hj3 ej3 dX6_storedJobs_18 ?_
    have w4 : (S.2 14 a0 j3) < 72 := hR.2.1.1 _ _ w2 hj3
    refine gCn_21_5 C0 hR w4 tbs_wsX10 mC10_1_225 hT dX6_storedJobs_19 ?_
    refine lv_if_eq (tgt := 29) hx hb dX6_storedJobs_22 (by decide) (fun c5 => ?_) (fun c5 => ?_)
    · have h := h.1 c5
      refine lv_iconst (v := 0) hx hb dX6_storedJobs_29 (by decide) ?_
      exact Bw_X6_storedJobs_30 C0 hr hlk hT ih4 a0 a2 a1 0 S _ _ _ av0 h hR hS (lv_sub hl [0, 2] rfl)
    · have h := h.2 c5
      refine lv_iconst (v := 1) hx hb dX6_storedJobs_25 (by decide) ?_
      refine lv_goto (tgt := 30) hx hb dX6_storedJobs_26 (by decide) ?_
      exact Bw_X6_storedJobs_30 C0 hr hlk hT ih4 a0 a2 a1 1 S _ _ _ av0 h hR hS (lv_sub hl [0, 2] rfl)
def B_X6_storedJobs_4 (n9 : Nat) (a0 : Nat) (a1 : Int32) (a2 : Int32) (S : sSt) (k : Int32 → sSt → Prop) : Prop := (Nat.rec (motive := fun _ => Nat → Int32 → Int32 → sSt → Prop) (fun _ _ _ _ => False) (fun _ r9 => fun a0 a1 a2 S => Bb_X6_storedJobs_4 r9 a0 a1 a2 S k) n9 : Nat → Int32 → Int32 → sSt → Prop) a0 a1 a2 S
theorem B_X6_storedJobs_4_s (n9 : Nat) (a0 : Nat) (a1 : Int32) (a2 : Int32) (S : sSt) (k : Int32 → sSt → Prop) : B_X6_storedJobs_4 (n9 + 1) a0 a1 a2 S k = Bb_X6_storedJobs_4 (fun a0 a1 a2 S => B_X6_storedJobs_4 n9 a0 a1 a2 S k) a0 a1 a2 S k := rfl
set_option maxHeartbeats 4000000 in
set_option maxRecDepth 100000 in
theorem Bw_X6_storedJobs_4 {p : Program} {l : Launch} {e : Env} {s : State} {m : MethodId} {args : Array Value} {below : List Frame} {meth : Method} {c : Code} {D : va_G} {cy : Nat → ClassId} {b z : Nat} {tx : TX} (C0 : CallFix p m c cX6_storedJobs 3 s args TB RX6) (hr : meth.sig.returnType = (some .int)) (hlk : meth.locks = false) (hT : TxR tx s) {k : Int32 → sSt → Prop} : ∀ (n9 : Nat), ∀ (a0 : Nat) (a1 : Int32) (a2 : Int32) (S : sSt) (H : Heap) (locs : List Loc) (ls : Array Slot) (av0 : a0 < 3), B_X6_storedJobs_4 n9 a0 a1 a2 S k → RelC D cy b z tx S s H → va_S (gA b 709 z) s.heap H locs → lv_has ls 3 [(0, .ref (b + adC 13 a0)), (1, .int a1), (2, .int a2)] → W p l e rm_X6_storedJobs s m args below meth c H locs 0 0 (MQ below (PiC D cy b z tx k) args s 0 0 (gA b 709 z)) (F0 m 4 ls []) := by
  intro n9
  induction n9 with
  | zero => intro a0 a1 a2 S H locs ls av0 h; exact h.elim
  | succ n9 ih =>
    intro a0 a1 a2 S H locs ls av0 h hR hS hl
    exact Bbw_X6_storedJobs_4 C0 hr hlk hT ih a0 a1 a2 S H locs ls av0 h hR hS hl
def F_X6_storedJobs (a0 : Nat) (S : sSt) (k : Int32 → sSt → Prop) : Prop := B_X6_storedJobs_4 fuel a0 0 0 S k
set_option maxHeartbeats 4000000 in
set_option maxRecDepth 100000 in
theorem c_X6_storedJobs (l : Launch) {D : va_G} {cy : Nat → ClassId} {b z : Nat} {tx : TX} {a0 : Nat} {S : sSt} {k : Int32 → sSt → Prop} (av0 : a0 < 3) (h : F_X6_storedJobs a0 S k) : Met l yX6_storedJobs (Cond.code yX6_storedJobs cX6_storedJobs 3 (some .int) :: TB) rm_X6_storedJobs (va_Pc [.ref (b + adC 13 a0)] (fun U => RelC D cy b z tx S U U.heap ∧ TxR tx U)) (PiC D cy b z tx k) 0 0 (gA b 709 z) := by
  refine Met.ofW (cc := cX6_storedJobs) (maxL := 3) (ret := (some .int)) (by decide) rfl ?_
  intro p e s m args below meth c s₁ B hml hv
  obtain ⟨rfl, hR, hT⟩ := hv
  have C0 : CallFix p m c cX6_storedJobs 3 s _ TB RX6 := ⟨B.exec, B.bytes, hml, findClass_of_methodNamed B.named, fun w hw => atoms_spec B.pre w (List.mem_cons_of_mem _ hw)⟩
  have hr := B.returns
  have hlk := B.notSynchronized
  have hx := C0.1
  have hb := C0.2.1
  have hS : va_S (gA b 709 z) s.heap s.heap [] := va_S.rf
  have hl := lv_entry ([.ref (b + adC 13 a0)]) (n := 3) (Nat.le_of_ble_eq_true rfl)
  rw [lg_entry_eq]
  generalize (lg_sl ([.ref (b + adC 13 a0)]) ++ List.replicate (3 - (lg_sl ([.ref (b + adC 13 a0)])).length) Slot.unset).toArray = ls at hl ⊢
  have hl : lv_has ls 3 [(0, .ref (b + adC 13 a0))] := hl
  show W p l e rm_X6_storedJobs s m _ below meth c s.heap [] 0 0 (MQ below (PiC D cy b z tx k) _ s 0 0 (gA b 709 z)) _
  unfold F_X6_storedJobs at h
  refine lv_iconst (v := 0) hx hb dX6_storedJobs_0 (by decide) ?_
  refine lv_istore_n (lv' := [(1, .int 0), (0, .ref (b + adC 13 a0))]) hx hb dX6_storedJobs_1 rfl hl (by decide) rfl (fun ls hl => ?_)
  refine lv_iconst (v := 0) hx hb dX6_storedJobs_2 (by decide) ?_
  refine lv_istore_n (lv' := [(2, .int 0), (1, .int 0), (0, .ref (b + adC 13 a0))]) hx hb dX6_storedJobs_3 rfl hl (by decide) rfl (fun ls hl => ?_)
  exact Bw_X6_storedJobs_4 C0 hr hlk hT fuel a0 0 0 S _ _ _ av0 h hR hS (lv_sub hl [2, 1, 0] rfl)

def rm_X6_lockedJobs : Room := { frames := 0, cells := 0, slots := 0, locals := 0 }
def B_X6_lockedJobs_31 (kk4 : Nat → Int32 → Int32 → sSt → Prop) (a0 : Nat) (a2 : Int32) (t0 : Int32) (t1 : Int32) (S : sSt) (k : Int32 → sSt → Prop) : Prop := ∀ x6 : Int32, x6 = (t0 + t1) → ∀ x7 : Int32, x7 = a2 + 1 → kk4 a0 x6 x7 S
set_option maxHeartbeats 4000000 in
set_option maxRecDepth 100000 in
theorem Bw_X6_lockedJobs_31 {p : Program} {l : Launch} {e : Env} {s : State} {m : MethodId} {args : Array Value} {below : List Frame} {meth : Method} {c : Code} {D : va_G} {cy : Nat → ClassId} {b z : Nat} {tx : TX} (C0 : CallFix p m c cX6_lockedJobs 3 s args TB RX6) (hr : meth.sig.returnType = (some .int)) (hlk : meth.locks = false) (hT : TxR tx s) {k : Int32 → sSt → Prop} {kk4 : Nat → Int32 → Int32 → sSt → Prop} (ih4 : ∀ (a0 : Nat) (a1 : Int32) (a2 : Int32) (S : sSt) (H : Heap) (locs : List Loc) (ls : Array Slot) (av0 : a0 < 3), kk4 a0 a1 a2 S → RelC D cy b z tx S s H → va_S (gA b 709 z) s.heap H locs → lv_has ls 3 [(0, .ref (b + adC 13 a0)), (1, .int a1), (2, .int a2)] → W p l e rm_X6_lockedJobs s m args below meth c H locs 0 0 (MQ below (PiC D cy b z tx k) args s 0 0 (gA b 709 z)) (F0 m 4 ls [])) : ∀ (a0 : Nat) (a2 : Int32) (t0 : Int32) (t1 : Int32) (S : sSt) (H : Heap) (locs : List Loc) (ls : Array Slot) (av0 : a0 < 3), B_X6_lockedJobs_31 kk4 a0 a2 t0 t1 S k → RelC D cy b z tx S s H → va_S (gA b 709 z) s.heap H locs → lv_has ls 3 [(0, .ref (b + adC 13 a0)), (2, .int a2)] → W p l e rm_X6_lockedJobs s m args below meth c H locs 0 0 (MQ below (PiC D cy b z tx k) args s 0 0 (gA b 709 z)) (F0 m 31 ls [.int t1, .int t0]) := by
  intro a0 a2 t0 t1 S H locs ls av0 h hR hS hl
  have hx := C0.1
  have hb := C0.2.1
  unfold B_X6_lockedJobs_31 at h
  refine lv_iadd hx hb dX6_lockedJobs_31 ?_
  refine lv_topi (fun x6 ex6 => ?_)
  have h := h x6 ex6
  refine lv_istore_n (lv' := [(1, .int x6), (0, .ref (b + adC 13 a0)), (2, .int a2)]) hx hb dX6_lockedJobs_32 rfl hl (by decide) rfl (fun ls hl => ?_)
  obtain ⟨x7, ex7⟩ : ∃ x7 : Int32, x7 = a2 + 1 := ⟨_, rfl⟩
  have h := h x7 ex7
  refine w_iinc (v0 := 1) (lv' := [(2, .int x7), (1, .int x6), (0, .ref (b + adC 13 a0))]) C0 dX6_lockedJobs_33 hl (k := 2) rfl (by decide) (by decide) x7 ex7 rfl (fun ls hl => ?_)
  refine lv_goto (tgt := 4) hx hb dX6_lockedJobs_36 (by decide) ?_
  exact ih4 a0 x6 x7 S _ _ _ av0 h hR hS (lv_sub hl [2, 1, 0] rfl)
def Bb_X6_lockedJobs_4 (kk4 : Nat → Int32 → Int32 → sSt → Prop) (a0 : Nat) (a1 : Int32) (a2 : Int32) (S : sSt) (k : Int32 → sSt → Prop) : Prop := (((S.1 13 a0 6) ≤ a2 → k a1 S) ∧ (¬ (S.1 13 a0 6) ≤ a2 → ix a2 24 (fun j3 => (((S.1 21 (S.2 14 a0 j3) 4) = (-1) → B_X6_lockedJobs_31 kk4 a0 a2 a1 0 S k) ∧ (¬ (S.1 21 (S.2 14 a0 j3) 4) = (-1) → B_X6_lockedJobs_31 kk4 a0 a2 a1 1 S k)))))
set_option maxHeartbeats 4000000 in
set_option maxRecDepth 100000 in
theorem Bbw_X6_lockedJobs_4 {p : Program} {l : Launch} {e : Env} {s : State} {m : MethodId} {args : Array Value} {below : List Frame} {meth : Method} {c : Code} {D : va_G} {cy : Nat → ClassId} {b z : Nat} {tx : TX} (C0 : CallFix p m c cX6_lockedJobs 3 s args TB RX6) (hr : meth.sig.returnType = (some .int)) (hlk : meth.locks = false) (hT : TxR tx s) {k : Int32 → sSt → Prop} {kk4 : Nat → Int32 → Int32 → sSt → Prop} (ih4 : ∀ (a0 : Nat) (a1 : Int32) (a2 : Int32) (S : sSt) (H : Heap) (locs : List Loc) (ls : Array Slot) (av0 : a0 < 3), kk4 a0 a1 a2 S → RelC D cy b z tx S s H → va_S (gA b 709 z) s.heap H locs → lv_has ls 3 [(0, .ref (b + adC 13 a0)), (1, .int a1), (2, .int a2)] → W p l e rm_X6_lockedJobs s m args below meth c H locs 0 0 (MQ below (PiC D cy b z tx k) args s 0 0 (gA b 709 z)) (F0 m 4 ls [])) : ∀ (a0 : Nat) (a1 : Int32) (a2 : Int32) (S : sSt) (H : Heap) (locs : List Loc) (ls : Array Slot) (av0 : a0 < 3), Bb_X6_lockedJobs_4 kk4 a0 a1 a2 S k → RelC D cy b z tx S s H → va_S (gA b 709 z) s.heap H locs → lv_has ls 3 [(0, .ref (b + adC 13 a0)), (1, .int a1), (2, .int a2)] → W p l e rm_X6_lockedJobs s m args below meth c H locs 0 0 (MQ below (PiC D cy b z tx k) args s 0 0 (gA b 709 z)) (F0 m 4 ls []) := by
  intro a0 a1 a2 S H locs ls av0 h hR hS hl
  have hx := C0.1
  have hb := C0.2.1
  unfold Bb_X6_lockedJobs_4 at h
  refine lv_iload_n hx hb dX6_lockedJobs_4 rfl (lv_at hl 2 rfl) ?_
  refine lv_aload_n hx hb dX6_lockedJobs_5 rfl (lv_at hl 0 rfl) ?_
  refine gC_13_6 C0 hR av0 tbs_wsX60 mC10_2_146 dX6_lockedJobs_6 ?_
  refine lv_icmp_ge (tgt := 39) hx hb dX6_lockedJobs_9 (by decide) (fun c1 => ?_) (fun c1 => ?_)
  · have h := h.1 c1
    refine lv_iload_n hx hb dX6_lockedJobs_39 rfl (lv_at hl 1 rfl) ?_
    exact rtC_i C0 hr hlk hR hS h dX6_lockedJobs_40
  · have h := h.2 c1
    refine lv_iload_n hx hb dX6_lockedJobs_12 rfl (lv_at hl 1 rfl) ?_
    refine lv_aload_n hx hb dX6_lockedJobs_13 rfl (lv_at hl 0 rfl) ?_
    refine gC_13_0 C0 hR av0 tbs_wsX60 mC10_2_126 dX6_lockedJobs_14 ?_
    have w2 : a0 < 3 := by omega
    refine lv_iload_n hx hb dX6_lockedJobs_17 rfl (lv_at hl 2 rfl) ?_
    obtain ⟨j3, hj3, ej3, h⟩ := h
    refine lC_14 C0 hR w2 hj3 ej3 dX6_lockedJobs_18 ?_
    have w4 : (S.2 14 a0 j3) < 72 := hR.2.1.1 _ _ w2 hj3
    refine gCn_21_4 C0 hR w4 tbs_wsX10 mC10_1_221 hT dX6_lockedJobs_19 ?_
    refine lv_iconst (v := (-1)) hx hb dX6_lockedJobs_22 (by decide) ?_
    refine lv_icmp_eq (tgt := 30) hx hb dX6_lockedJobs_23 (by decide) (fun c5 => ?_) (fun c5 => ?_)
    · have h := h.1 c5
      refine lv_iconst (v := 0) hx hb dX6_lockedJobs_30 (by decide) ?_
      exact Bw_X6_lockedJobs_31 C0 hr hlk hT ih4 a0 a2 a1 0 S _ _ _ av0 h hR hS (lv_sub hl [0, 2] rfl)
    · have h := h.2 c5
      refine lv_iconst (v := 1) hx hb dX6_lockedJobs_26 (by decide) ?_
      refine lv_goto (tgt := 31) hx hb dX6_lockedJobs_27 (by decide) ?_
      exact Bw_X6_lockedJobs_31 C0 hr hlk hT ih4 a0 a2 a1 1 S _ _ _ av0 h hR hS (lv_sub hl [0, 2] rfl)
def B_X6_lockedJobs_4 (n9 : Nat) (a0 : Nat) (a1 : Int32) (a2 : Int32) (S : sSt) (k : Int32 → sSt → Prop) : Prop := (Nat.rec (motive := fun _ => Nat → Int32 → Int32 → sSt → Prop) (fun _ _ _ _ => False) (fun _ r9 => fun a0 a1 a2 S => Bb_X6_lockedJobs_4 r9 a0 a1 a2 S k) n9 : Nat → Int32 → Int32 → sSt → Prop) a0 a1 a2 S
theorem B_X6_lockedJobs_4_s (n9 : Nat) (a0 : Nat) (a1 : Int32) (a2 : Int32) (S : sSt) (k : Int32 → sSt → Prop) : B_X6_lockedJobs_4 (n9 + 1) a0 a1 a2 S k = Bb_X6_lockedJobs_4 (fun a0 a1 a2 S => B_X6_lockedJobs_4 n9 a0 a1 a2 S k) a0 a1 a2 S k := rfl
set_option maxHeartbeats 4000000 in
set_option maxRecDepth 100000 in
theorem Bw_X6_lockedJobs_4 {p : Program} {l : Launch} {e : Env} {s : State} {m : MethodId} {args : Array Value} {below : List Frame} {meth : Method} {c : Code} {D : va_G} {cy : Nat → ClassId} {b z : Nat} {tx : TX} (C0 : CallFix p m c cX6_lockedJobs 3 s args TB RX6) (hr : meth.sig.returnType = (some .int)) (hlk : meth.locks = false) (hT : TxR tx s) {k : Int32 → sSt → Prop} : ∀ (n9 : Nat), ∀ (a0 : Nat) (a1 : Int32) (a2 : Int32) (S : sSt) (H : Heap) (locs : List Loc) (ls : Array Slot) (av0 : a0 < 3), B_X6_lockedJobs_4 n9 a0 a1 a2 S k → RelC D cy b z tx S s H → va_S (gA b 709 z) s.heap H locs → lv_has ls 3 [(0, .ref (b + adC 13 a0)), (1, .int a1), (2, .int a2)] → W p l e rm_X6_lockedJobs s m args below meth c H locs 0 0 (MQ below (PiC D cy b z tx k) args s 0 0 (gA b 709 z)) (F0 m 4 ls []) := by
  intro n9
  induction n9 with
  | zero => intro a0 a1 a2 S H locs ls av0 h; exact h.elim
  | succ n9 ih =>
    intro a0 a1 a2 S H locs ls av0 h hR hS hl
    exact Bbw_X6_lockedJobs_4 C0 hr hlk hT ih a0 a1 a2 S H locs ls av0 h hR hS hl
def F_X6_lockedJobs (a0 : Nat) (S : sSt) (k : Int32 → sSt → Prop) : Prop := B_X6_lockedJobs_4 fuel a0 0 0 S k
set_option maxHeartbeats 4000000 in
set_option maxRecDepth 100000 in
theorem c_X6_lockedJobs (l : Launch) {D : va_G} {cy : Nat → ClassId} {b z : Nat} {tx : TX} {a0 : Nat} {S : sSt} {k : Int32 → sSt → Prop} (av0 : a0 < 3) (h : F_X6_lockedJobs a0 S k) : Met l yX6_lockedJobs (Cond.code yX6_lockedJobs cX6_lockedJobs 3 (some .int) :: TB) rm_X6_lockedJobs (va_Pc [.ref (b + adC 13 a0)] (fun U => RelC D cy b z tx S U U.heap ∧ TxR tx U)) (PiC D cy b z tx k) 0 0 (gA b 709 z) := by
  refine Met.ofW (cc := cX6_lockedJobs) (maxL := 3) (ret := (some .int)) (by decide) rfl ?_
  intro p e s m args below meth c s₁ B hml hv
  obtain ⟨rfl, hR, hT⟩ := hv
  have C0 : CallFix p m c cX6_lockedJobs 3 s _ TB RX6 := ⟨B.exec, B.bytes, hml, findClass_of_methodNamed B.named, fun w hw => atoms_spec B.pre w (List.mem_cons_of_mem _ hw)⟩
  have hr := B.returns
  have hlk := B.notSynchronized
  have hx := C0.1
  have hb := C0.2.1
  have hS : va_S (gA b 709 z) s.heap s.heap [] := va_S.rf
  have hl := lv_entry ([.ref (b + adC 13 a0)]) (n := 3) (Nat.le_of_ble_eq_true rfl)
  rw [lg_entry_eq]
  generalize (lg_sl ([.ref (b + adC 13 a0)]) ++ List.replicate (3 - (lg_sl ([.ref (b + adC 13 a0)])).length) Slot.unset).toArray = ls at hl ⊢
  have hl : lv_has ls 3 [(0, .ref (b + adC 13 a0))] := hl
  show W p l e rm_X6_lockedJobs s m _ below meth c s.heap [] 0 0 (MQ below (PiC D cy b z tx k) _ s 0 0 (gA b 709 z)) _
  unfold F_X6_lockedJobs at h
  refine lv_iconst (v := 0) hx hb dX6_lockedJobs_0 (by decide) ?_
  refine lv_istore_n (lv' := [(1, .int 0), (0, .ref (b + adC 13 a0))]) hx hb dX6_lockedJobs_1 rfl hl (by decide) rfl (fun ls hl => ?_)
  refine lv_iconst (v := 0) hx hb dX6_lockedJobs_2 (by decide) ?_
  refine lv_istore_n (lv' := [(2, .int 0), (1, .int 0), (0, .ref (b + adC 13 a0))]) hx hb dX6_lockedJobs_3 rfl hl (by decide) rfl (fun ls hl => ?_)
  exact Bw_X6_lockedJobs_4 C0 hr hlk hT fuel a0 0 0 S _ _ _ av0 h hR hS (lv_sub hl [2, 1, 0] rfl)

def rm_X11_count : Room := { frames := 1, cells := 0, slots := 0, locals := 22 }
def F_X11_count (a1 : Int32) (S : sSt) (k : Int32 → sSt → Prop) : Prop := ((a1 = 0 → F_X6_storedJobs (S.2 0 0 4) S (fun r3 S4 => k r3 S4)) ∧ (¬ a1 = 0 → ((a1 = 1 → k (S.1 13 (S.2 0 0 4) 7) S) ∧ (¬ a1 = 1 → ((a1 = 2 → k (S.1 13 (S.2 0 0 4) 8) S) ∧ (¬ a1 = 2 → ((a1 = 3 → k (S.1 13 (S.2 0 0 4) 9) S) ∧ (¬ a1 = 3 → ((a1 = 4 → k (S.1 13 (S.2 0 0 4) 10) S) ∧ (¬ a1 = 4 → ((a1 = 5 → k (S.1 13 (S.2 0 0 4) 11) S) ∧ (¬ a1 = 5 → ((a1 = 6 → k (S.1 13 (S.2 0 0 4) 12) S) ∧ (¬ a1 = 6 → ((a1 = 7 → k (S.1 13 (S.2 0 0 4) 13) S) ∧ (¬ a1 = 7 → ((a1 = 8 → k (S.1 13 (S.2 0 0 4) 14) S) ∧ (¬ a1 = 8 → ((a1 = 9 → k (S.1 13 (S.2 0 0 4) 15) S) ∧ (¬ a1 = 9 → ((a1 = 10 → F_X6_openTransactions (S.2 0 0 4) S (fun r25 S26 => k r25 S26)) ∧ (¬ a1 = 10 → ((a1 = 11 → F_X6_lockedJobs (S.2 0 0 4) S (fun r29 S30 => k r29 S30)) ∧ (¬ a1 = 11 → ((a1 = 12 → k (S.1 18 (S.2 0 0 4) 0) S) ∧ (¬ a1 = 12 → ((a1 = 13 → k (S.1 18 (S.2 0 0 4) 1) S) ∧ (¬ a1 = 13 → ((a1 = 14 → k (S.1 18 (S.2 0 0 4) 2) S) ∧ (¬ a1 = 14 → ((a1 = 15 → k (S.1 18 (S.2 0 0 4) 3) S) ∧ (¬ a1 = 15 → ((a1 = 16 → k (S.1 18 (S.2 0 0 4) 4) S) ∧ (¬ a1 = 16 → ((a1 = 17 → k (S.1 19 (S.2 0 0 4) 2) S) ∧ (¬ a1 = 17 → k (-1) S))))))))))))))))))))))))))))))))))))
set_option maxHeartbeats 4000000 in
set_option maxRecDepth 100000 in
theorem c_X11_count (l : Launch) {D : va_G} {cy : Nat → ClassId} {b z : Nat} {tx : TX} {a1 : Int32} {S : sSt} {k : Int32 → sSt → Prop} (h : F_X11_count a1 S k) : Met l yX11_count (Cond.code yX11_count cX11_count 2 (some .int) :: TB) rm_X11_count (va_Pc [.ref (b + adC 0 0), .int a1] (fun U => RelC D cy b z tx S U U.heap ∧ TxR tx U)) (PiC D cy b z tx k) 0 0 (gA b 709 z) := by
  refine Met.ofW (cc := cX11_count) (maxL := 2) (ret := (some .int)) (by decide) rfl ?_
  intro p e s m args below meth c s₁ B hml hv
  obtain ⟨rfl, hR, hT⟩ := hv
  have C0 : CallFix p m c cX11_count 2 s _ TB RX11 := ⟨B.exec, B.bytes, hml, findClass_of_methodNamed B.named, fun w hw => atoms_spec B.pre w (List.mem_cons_of_mem _ hw)⟩
  have hr := B.returns
  have hlk := B.notSynchronized
  have hx := C0.1
  have hb := C0.2.1
  have hS : va_S (gA b 709 z) s.heap s.heap [] := va_S.rf
  have hl := lv_entry ([.ref (b + adC 0 0), .int a1]) (n := 2) (Nat.le_of_ble_eq_true rfl)
  rw [lg_entry_eq]
  generalize (lg_sl ([.ref (b + adC 0 0), .int a1]) ++ List.replicate (2 - (lg_sl ([.ref (b + adC 0 0), .int a1])).length) Slot.unset).toArray = ls at hl ⊢
  have hl : lv_has ls 2 [(0, .ref (b + adC 0 0)), (1, .int a1)] := hl
  show W p l e rm_X11_count s m _ below meth c s.heap [] 0 0 (MQ below (PiC D cy b z tx k) _ s 0 0 (gA b 709 z)) _
  unfold F_X11_count at h
  refine lv_iload_n hx hb dX11_count_0 rfl (lv_at hl 1 rfl) ?_
  by_cases c1 : a1 = 0
  · have h := h.1 c1
    refine lv_tableIn (tgt := 88) hx hb dX11_count_1 (by rw [c1]; decide) (by rw [c1]; decide) (by rw [c1]; rfl) (by decide) ?_
    refine lv_aload_n hx hb dX11_count_88 rfl (lv_at hl 0 rfl) ?_
    refine gC_0_4 C0 hR Nat.zero_lt_one tbs_wsX110 mC10_2_213 dX11_count_89 ?_
    have w2 : (S.2 0 0 4) < 3 := hR.2.1.2.1
    refine qC_Vi (As := []) (rest := []) C0 (c_X6_storedJobs l w2 h) (cwV 0 C0.2.2.2.2 (tbV mC10_3_97 ⟨mC10_3_98, mC10_3_99, mC10_1_5, mC10_3_100⟩) rfl rfl rfl (by decide +kernel) ⟨Nat.le_of_ble_eq_true rfl, Nat.le_of_ble_eq_true rfl⟩) (rcC_13 hR w2) hR hT hS rfl hl.1 rfl (Nat.le_of_ble_eq_true rfl) dX11_count_92 ⟨Nat.zero_le _, Nat.zero_le _⟩ (fun r3 S4 H locs h hR hS => ?_)
    exact rtC_i C0 hr hlk hR hS h dX11_count_95
  have h := h.2 c1
  by_cases c5 : a1 = 1
  · have h := h.1 c5
    refine lv_tableIn (tgt := 96) hx hb dX11_count_1 (by rw [c5]; decide) (by rw [c5]; decide) (by rw [c5]; rfl) (by decide) ?_
    refine lv_aload_n hx hb dX11_count_96 rfl (lv_at hl 0 rfl) ?_
    refine gC_0_4 C0 hR Nat.zero_lt_one tbs_wsX110 mC10_2_213 dX11_count_97 ?_
    have w6 : (S.2 0 0 4) < 3 := hR.2.1.2.1
    refine gCn_13_7 C0 hR w6 tbs_wsX60 mC10_2_152 hT dX11_count_100 ?_
    exact rtC_i C0 hr hlk hR hS h dX11_count_103
  have h := h.2 c5
  by_cases c7 : a1 = 2
  · have h := h.1 c7
    refine lv_tableIn (tgt := 104) hx hb dX11_count_1 (by rw [c7]; decide) (by rw [c7]; decide) (by rw [c7]; rfl) (by decide) ?_
    refine lv_aload_n hx hb dX11_count_104 rfl (lv_at hl 0 rfl) ?_
    refine gC_0_4 C0 hR Nat.zero_lt_one tbs_wsX110 mC10_2_213 dX11_count_105 ?_
    have w8 : (S.2 0 0 4) < 3 := hR.2.1.2.1
    refine gCn_13_8 C0 hR w8 tbs_wsX60 mC10_2_155 hT dX11_count_108 ?_
    exact rtC_i C0 hr hlk hR hS h dX11_count_111
  have h := h.2 c7
  by_cases c9 : a1 = 3
  · have h := h.1 c9
    refine lv_tableIn (tgt := 112) hx hb dX11_count_1 (by rw [c9]; decide) (by rw [c9]; decide) (by rw [c9]; rfl) (by decide) ?_
    refine lv_aload_n hx hb dX11_count_112 rfl (lv_at hl 0 rfl) ?_
    refine gC_0_4 C0 hR Nat.zero_lt_one tbs_wsX110 mC10_2_213 dX11_count_113 ?_
    have w10 : (S.2 0 0 4) < 3 := hR.2.1.2.1
    refine gCn_13_9 C0 hR w10 tbs_wsX60 mC10_2_157 hT dX11_count_116 ?_
    exact rtC_i C0 hr hlk hR hS h dX11_count_119
  have h := h.2 c9
  by_cases c11 : a1 = 4
  · have h := h.1 c11
    refine lv_tableIn (tgt := 120) hx hb dX11_count_1 (by rw [c11]; decide) (by rw [c11]; decide) (by rw [c11]; rfl) (by decide) ?_
    refine lv_aload_n hx hb dX11_count_120 rfl (lv_at hl 0 rfl) ?_
    refine gC_0_4 C0 hR Nat.zero_lt_one tbs_wsX110 mC10_2_213 dX11_count_121 ?_
    have w12 : (S.2 0 0 4) < 3 := hR.2.1.2.1
    refine gCn_13_10 C0 hR w12 tbs_wsX60 mC10_2_163 hT dX11_count_124 ?_
    exact rtC_i C0 hr hlk hR hS h dX11_count_127
  have h := h.2 c11
  by_cases c13 : a1 = 5
  · have h := h.1 c13
    refine lv_tableIn (tgt := 128) hx hb dX11_count_1 (by rw [c13]; decide) (by rw [c13]; decide) (by rw [c13]; rfl) (by decide) ?_
    refine lv_aload_n hx hb dX11_count_128 rfl (lv_at hl 0 rfl) ?_
    refine gC_0_4 C0 hR Nat.zero_lt_one tbs_wsX110 mC10_2_213 dX11_count_129 ?_
    have w14 : (S.2 0 0 4) < 3 := hR.2.1.2.1
    refine gCn_13_11 C0 hR w14 tbs_wsX60 mC10_2_166 hT dX11_count_132 ?_
    exact rtC_i C0 hr hlk hR hS h dX11_count_135
  have h := h.2 c13
  by_cases c15 : a1 = 6
  · have h := h.1 c15
    refine lv_tableIn (tgt := 136) hx hb dX11_count_1 (by rw [c15]; decide) (by rw [c15]; decide) (by rw [c15]; rfl) (by decide) ?_
    refine lv_aload_n hx hb dX11_count_136 rfl (lv_at hl 0 rfl) ?_
    refine gC_0_4 C0 hR Nat.zero_lt_one tbs_wsX110 mC10_2_213 dX11_count_137 ?_
    have w16 : (S.2 0 0 4) < 3 := hR.2.1.2.1
    refine gCn_13_12 C0 hR w16 tbs_wsX60 mC10_2_169 hT dX11_count_140 ?_
    exact rtC_i C0 hr hlk hR hS h dX11_count_143
  have h := h.2 c15
  by_cases c17 : a1 = 7
  · have h := h.1 c17
    refine lv_tableIn (tgt := 144) hx hb dX11_count_1 (by rw [c17]; decide) (by rw [c17]; decide) (by rw [c17]; rfl) (by decide) ?_
    refine lv_aload_n hx hb dX11_count_144 rfl (lv_at hl 0 rfl) ?_
    refine gC_0_4 C0 hR Nat.zero_lt_one tbs_wsX110 mC10_2_213 dX11_count_145 ?_
    have w18 : (S.2 0 0 4) < 3 := hR.2.1.2.1
    refine gCn_13_13 C0 hR w18 tbs_wsX60 mC10_2_171 hT dX11_count_148 ?_
    exact rtC_i C0 hr hlk hR hS h dX11_count_151
  have h := h.2 c17
  by_cases c19 : a1 = 8
  · have h := h.1 c19
    refine lv_tableIn (tgt := 152) hx hb dX11_count_1 (by rw [c19]; decide) (by rw [c19]; decide) (by rw [c19]; rfl) (by decide) ?_
    refine lv_aload_n hx hb dX11_count_152 rfl (lv_at hl 0 rfl) ?_
    refine gC_0_4 C0 hR Nat.zero_lt_one tbs_wsX110 mC10_2_213 dX11_count_153 ?_
    have w20 : (S.2 0 0 4) < 3 := hR.2.1.2.1
    refine gCn_13_14 C0 hR w20 tbs_wsX60 mC10_2_173 hT dX11_count_156 ?_
    exact rtC_i C0 hr hlk hR hS h dX11_count_159
  have h := h.2 c19
  by_cases c21 : a1 = 9
  · have h := h.1 c21
    refine lv_tableIn (tgt := 160) hx hb dX11_count_1 (by rw [c21]; decide) (by rw [c21]; decide) (by rw [c21]; rfl) (by decide) ?_
    refine lv_aload_n hx hb dX11_count_160 rfl (lv_at hl 0 rfl) ?_
    refine gC_0_4 C0 hR Nat.zero_lt_one tbs_wsX110 mC10_2_213 dX11_count_161 ?_
    have w22 : (S.2 0 0 4) < 3 := hR.2.1.2.1
    refine gCn_13_15 C0 hR w22 tbs_wsX60 mC10_2_175 hT dX11_count_164 ?_
    exact rtC_i C0 hr hlk hR hS h dX11_count_167
  have h := h.2 c21
  by_cases c23 : a1 = 10
  · have h := h.1 c23
    refine lv_tableIn (tgt := 168) hx hb dX11_count_1 (by rw [c23]; decide) (by rw [c23]; decide) (by rw [c23]; rfl) (by decide) ?_
    refine lv_aload_n hx hb dX11_count_168 rfl (lv_at hl 0 rfl) ?_
    refine gC_0_4 C0 hR Nat.zero_lt_one tbs_wsX110 mC10_2_213 dX11_count_169 ?_
    have w24 : (S.2 0 0 4) < 3 := hR.2.1.2.1
    refine qC_Vi (As := []) (rest := []) C0 (c_X6_openTransactions l w24 h) (cwV 0 C0.2.2.2.2 (tbV mC10_3_101 ⟨mC10_3_102, mC10_3_103, mC10_1_5, mC10_3_104⟩) rfl rfl rfl (by decide +kernel) ⟨Nat.le_of_ble_eq_true rfl, Nat.le_of_ble_eq_true rfl⟩) (rcC_13 hR w24) hR hT hS rfl hl.1 rfl (Nat.le_of_ble_eq_true rfl) dX11_count_172 ⟨Nat.zero_le _, Nat.zero_le _⟩ (fun r25 S26 H locs h hR hS => ?_)
    exact rtC_i C0 hr hlk hR hS h dX11_count_175
  have h := h.2 c23
  by_cases c27 : a1 = 11
  · have h := h.1 c27
    refine lv_tableIn (tgt := 176) hx hb dX11_count_1 (by rw [c27]; decide) (by rw [c27]; decide) (by rw [c27]; rfl) (by decide) ?_
    refine lv_aload_n hx hb dX11_count_176 rfl (lv_at hl 0 rfl) ?_
    refine gC_0_4 C0 hR Nat.zero_lt_one tbs_wsX110 mC10_2_213 dX11_count_177 ?_
    have w28 : (S.2 0 0 4) < 3 := hR.2.1.2.1
    refine qC_Vi (As := []) (rest := []) C0 (c_X6_lockedJobs l w28 h) (cwV 0 C0.2.2.2.2 (tbV mC10_3_105 ⟨mC10_3_106, mC10_3_107, mC10_1_5, mC10_3_108⟩) rfl rfl rfl (by decide +kernel) ⟨Nat.le_of_ble_eq_true rfl, Nat.le_of_ble_eq_true rfl⟩) (rcC_13 hR w28) hR hT hS rfl hl.1 rfl (Nat.le_of_ble_eq_true rfl) dX11_count_180 ⟨Nat.zero_le _, Nat.zero_le _⟩ (fun r29 S30 H locs h hR hS => ?_)
    exact rtC_i C0 hr hlk hR hS h dX11_count_183
  have h := h.2 c27
  by_cases c31 : a1 = 12
  · have h := h.1 c31
    refine lv_tableIn (tgt := 184) hx hb dX11_count_1 (by rw [c31]; decide) (by rw [c31]; decide) (by rw [c31]; rfl) (by decide) ?_
    refine lv_aload_n hx hb dX11_count_184 rfl (lv_at hl 0 rfl) ?_
    refine gC_0_4 C0 hR Nat.zero_lt_one tbs_wsX110 mC10_2_213 dX11_count_185 ?_
    have w32 : (S.2 0 0 4) < 3 := hR.2.1.2.1
    refine gCn_13_4 C0 hR w32 tbs_wsX60 mC10_2_143 hT dX11_count_188 ?_
    have w33 : (S.2 0 0 4) < 3 := by omega
    refine lv_iconst (v := 0) hx hb dX11_count_191 (by decide) ?_
    refine lC_18 C0 hR w33 (by decide) rfl dX11_count_192 ?_
    exact rtC_i C0 hr hlk hR hS h dX11_count_193
  have h := h.2 c31
  by_cases c34 : a1 = 13
  · have h := h.1 c34
    refine lv_tableIn (tgt := 194) hx hb dX11_count_1 (by rw [c34]; decide) (by rw [c34]; decide) (by rw [c34]; rfl) (by decide) ?_
    refine lv_aload_n hx hb dX11_count_194 rfl (lv_at hl 0 rfl) ?_
    refine gC_0_4 C0 hR Nat.zero_lt_one tbs_wsX110 mC10_2_213 dX11_count_195 ?_
    have w35 : (S.2 0 0 4) < 3 := hR.2.1.2.1
    refine gCn_13_4 C0 hR w35 tbs_wsX60 mC10_2_143 hT dX11_count_198 ?_
    have w36 : (S.2 0 0 4) < 3 := by omega
    refine lv_iconst (v := 1) hx hb dX11_count_201 (by decide) ?_
    refine lC_18 C0 hR w36 (by decide) rfl dX11_count_202 ?_
    exact rtC_i C0 hr hlk hR hS h dX11_count_203
  have h := h.2 c34
  by_cases c37 : a1 = 14
  · have h := h.1 c37
    refine lv_tableIn (tgt := 204) hx hb dX11_count_1 (by rw [c37]; decide) (by rw [c37]; decide) (by rw [c37]; rfl) (by decide) ?_
    refine lv_aload_n hx hb dX11_count_204 rfl (lv_at hl 0 rfl) ?_
    refine gC_0_4 C0 hR Nat.zero_lt_one tbs_wsX110 mC10_2_213 dX11_count_205 ?_
    have w38 : (S.2 0 0 4) < 3 := hR.2.1.2.1
    refine gCn_13_4 C0 hR w38 tbs_wsX60 mC10_2_143 hT dX11_count_208 ?_
    have w39 : (S.2 0 0 4) < 3 := by omega
    refine lv_iconst (v := 2) hx hb dX11_count_211 (by decide) ?_
    refine lC_18 C0 hR w39 (by decide) rfl dX11_count_212 ?_
    exact rtC_i C0 hr hlk hR hS h dX11_count_213
  have h := h.2 c37
  by_cases c40 : a1 = 15
  · have h := h.1 c40
    refine lv_tableIn (tgt := 214) hx hb dX11_count_1 (by rw [c40]; decide) (by rw [c40]; decide) (by rw [c40]; rfl) (by decide) ?_
    refine lv_aload_n hx hb dX11_count_214 rfl (lv_at hl 0 rfl) ?_
    refine gC_0_4 C0 hR Nat.zero_lt_one tbs_wsX110 mC10_2_213 dX11_count_215 ?_
    have w41 : (S.2 0 0 4) < 3 := hR.2.1.2.1
    refine gCn_13_4 C0 hR w41 tbs_wsX60 mC10_2_143 hT dX11_count_218 ?_
    have w42 : (S.2 0 0 4) < 3 := by omega
    refine lv_iconst (v := 3) hx hb dX11_count_221 (by decide) ?_
    refine lC_18 C0 hR w42 (by decide) rfl dX11_count_222 ?_
    exact rtC_i C0 hr hlk hR hS h dX11_count_223
  have h := h.2 c40
  by_cases c43 : a1 = 16
  · have h := h.1 c43
    refine lv_tableIn (tgt := 224) hx hb dX11_count_1 (by rw [c43]; decide) (by rw [c43]; decide) (by rw [c43]; rfl) (by decide) ?_
    refine lv_aload_n hx hb dX11_count_224 rfl (lv_at hl 0 rfl) ?_
    refine gC_0_4 C0 hR Nat.zero_lt_one tbs_wsX110 mC10_2_213 dX11_count_225 ?_
    have w44 : (S.2 0 0 4) < 3 := hR.2.1.2.1
    refine gCn_13_4 C0 hR w44 tbs_wsX60 mC10_2_143 hT dX11_count_228 ?_
    have w45 : (S.2 0 0 4) < 3 := by omega
    refine lv_iconst (v := 4) hx hb dX11_count_231 (by decide) ?_
    refine lC_18 C0 hR w45 (by decide) rfl dX11_count_232 ?_
    exact rtC_i C0 hr hlk hR hS h dX11_count_233
  have h := h.2 c43
  by_cases c46 : a1 = 17
  · have h := h.1 c46
    refine lv_tableIn (tgt := 234) hx hb dX11_count_1 (by rw [c46]; decide) (by rw [c46]; decide) (by rw [c46]; rfl) (by decide) ?_
    refine lv_aload_n hx hb dX11_count_234 rfl (lv_at hl 0 rfl) ?_
    refine gC_0_4 C0 hR Nat.zero_lt_one tbs_wsX110 mC10_2_213 dX11_count_235 ?_
    have w47 : (S.2 0 0 4) < 3 := hR.2.1.2.1
    refine gCn_13_5 C0 hR w47 tbs_wsX60 mC10_2_145 hT dX11_count_238 ?_
    have w48 : (S.2 0 0 4) < 3 := by omega
    refine gCn_19_2 C0 hR w48 tbs_wsX20 mC10_1_138 hT dX11_count_241 ?_
    exact rtC_i C0 hr hlk hR hS h dX11_count_244
  have h := h.2 c46
  refine lv_tableOut (tgt := 245) hx hb dX11_count_1 (by have a9 := fun j : Int32 => (Int32.toInt_inj (x := a1) (y := j)).mp; have b9 : ∀ j : Int32, a1 ≠ j → (a1 : Int32).toInt ≠ j.toInt := fun j n9 q9 => n9 (a9 j q9); have c1_ := b9 _ c1; have c5_ := b9 _ c5; have c7_ := b9 _ c7; have c9_ := b9 _ c9; have c11_ := b9 _ c11; have c13_ := b9 _ c13; have c15_ := b9 _ c15; have c17_ := b9 _ c17; have c19_ := b9 _ c19; have c21_ := b9 _ c21; have c23_ := b9 _ c23; have c27_ := b9 _ c27; have c31_ := b9 _ c31; have c34_ := b9 _ c34; have c37_ := b9 _ c37; have c40_ := b9 _ c40; have c43_ := b9 _ c43; have c46_ := b9 _ c46; simp at c1_ c5_ c7_ c9_ c11_ c13_ c15_ c17_ c19_ c21_ c23_ c27_ c31_ c34_ c37_ c40_ c43_ c46_; omega) (by decide) ?_
  refine lv_iconst (v := (-1)) hx hb dX11_count_245 (by decide) ?_
  exact rtC_i C0 hr hlk hR hS h dX11_count_246
