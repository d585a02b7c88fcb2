theorem mC3_2_216 : Cond.fieldLink RX11 102 "ClaimTable" "why" "I" ∈ TB := tbT_2 _ (List.mem_of_getElem? (i := 216) rfl) rfl
theorem mC3_4_206 : Cond.classLink RX11 400 "java/lang/IllegalStateException" ∈ TB := tbT_4 _ (List.mem_of_getElem? (i := 206) rfl) rfl
theorem mC3_1_24 : Cond.initialized "java/lang/IllegalStateException" ∈ TB := tbT_1 _ (List.mem_of_getElem? (i := 24) rfl) rfl
theorem mC3_2_150 : Cond.fieldLink RX6 54 "ClaimTable$Table" "sessionCount" "I" ∈ TB := tbT_2 _ (List.mem_of_getElem? (i := 150) rfl) rfl
theorem mC3_2_129 : Cond.fieldLink RX6 19 "ClaimTable$Table" "sessions" "[LClaimTable$Session;" ∈ TB := tbT_2 _ (List.mem_of_getElem? (i := 129) rfl) rfl
theorem mC3_2_64 : Cond.fieldLinkNest RX6 175 "ClaimTable$Session" "open" "Z" "ClaimTable" ∈ NB := nbT_2 _ (List.mem_of_getElem? (i := 64) rfl) rfl
theorem mC3_4_133 : Cond.methodLink RX11 77 yX11_needSession ∈ TB := tbT_4 _ (List.mem_of_getElem? (i := 133) rfl) rfl
theorem mC3_4_136 : Cond.code yX11_needSession cX11_needSession 2 none ∈ TB := tbT_4 _ (List.mem_of_getElem? (i := 136) rfl) rfl
theorem mC3_4_135 : Cond.instanceMethod yX11_needSession ∈ TB := tbT_4 _ (List.mem_of_getElem? (i := 135) rfl) rfl
theorem mpC3_1_5 : Cond.selects RX11 yX11_needSession yX11_needSession ∈ TB := tbP_1 (yX11_needSession, 8) (List.mem_of_getElem? (i := 5) rfl)
theorem mC3_1_1 : Cond.initialized RX11 ∈ TB := tbT_1 _ (List.mem_of_getElem? (i := 1) rfl) rfl
theorem mC3_2_213 : Cond.fieldLink RX11 37 "ClaimTable" "live" "LClaimTable$Table;" ∈ TB := tbT_2 _ (List.mem_of_getElem? (i := 213) rfl) rfl
theorem mC3_2_131 : Cond.fieldLinkNest RX11 84 "ClaimTable$Table" "sessions" "[LClaimTable$Session;" "ClaimTable" ∈ NB := nbT_2 _ (List.mem_of_getElem? (i := 131) rfl) rfl
theorem mC3_2_63 : Cond.fieldLinkNest RX11 105 "ClaimTable$Session" "open" "Z" "ClaimTable" ∈ NB := nbT_2 _ (List.mem_of_getElem? (i := 63) rfl) rfl
theorem mC3_4_202 : Cond.methodLink RX11 109 yX11_settle ∈ TB := tbT_4 _ (List.mem_of_getElem? (i := 202) rfl) rfl
theorem mC3_4_205 : Cond.code yX11_settle cX11_settle 2 none ∈ TB := tbT_4 _ (List.mem_of_getElem? (i := 205) rfl) rfl
theorem mC3_4_204 : Cond.instanceMethod yX11_settle ∈ TB := tbT_4 _ (List.mem_of_getElem? (i := 204) rfl) rfl
theorem mpC3_1_8 : Cond.selects RX11 yX11_settle yX11_settle ∈ TB := tbP_1 (yX11_settle, 8) (List.mem_of_getElem? (i := 8) rfl)
theorem mC3_3_101 : Cond.methodLink RX11 112 yX6_openTransactions ∈ TB := tbT_3 _ (List.mem_of_getElem? (i := 101) rfl) rfl
theorem mC3_3_104 : Cond.code yX6_openTransactions cX6_openTransactions 3 (some .int) ∈ TB := tbT_3 _ (List.mem_of_getElem? (i := 104) rfl) rfl
theorem mC3_3_102 : Cond.instanceMethod yX6_openTransactions ∈ TB := tbT_3 _ (List.mem_of_getElem? (i := 102) rfl) rfl
theorem mC3_3_103 : Cond.selects RX6 yX6_openTransactions yX6_openTransactions ∈ TB := tbT_3 _ (List.mem_of_getElem? (i := 103) rfl) rfl
theorem mC3_1_5 : Cond.initialized RX6 ∈ TB := tbT_1 _ (List.mem_of_getElem? (i := 5) rfl) rfl
theorem mC3_1_220 : Cond.fieldLink RX1 25 "ClaimTable$Job" "locker" "I" ∈ TB := tbT_1 _ (List.mem_of_getElem? (i := 220) rfl) rfl
theorem mC3_1_218 : Cond.fieldLink RX1 21 "ClaimTable$Job" "saved" "[LClaimTable$Version;" ∈ TB := tbT_1 _ (List.mem_of_getElem? (i := 218) rfl) rfl
theorem mC3_1_215 : Cond.fieldLink RX1 18 "ClaimTable$Job" "own" "LClaimTable$Version;" ∈ TB := tbT_1 _ (List.mem_of_getElem? (i := 215) rfl) rfl
theorem mC3_3_61 : Cond.methodLink RX1 57 yX9_copyFrom ∈ TB := tbT_3 _ (List.mem_of_getElem? (i := 61) rfl) rfl
theorem mC3_3_64 : Cond.code yX9_copyFrom cX9_copyFrom 2 none ∈ TB := tbT_3 _ (List.mem_of_getElem? (i := 64) rfl) rfl
theorem mC3_3_62 : Cond.instanceMethod yX9_copyFrom ∈ TB := tbT_3 _ (List.mem_of_getElem? (i := 62) rfl) rfl
theorem mC3_3_63 : Cond.selects RX9 yX9_copyFrom yX9_copyFrom ∈ TB := tbT_3 _ (List.mem_of_getElem? (i := 63) rfl) rfl
theorem mC3_1_8 : Cond.initialized RX9 ∈ TB := tbT_1 _ (List.mem_of_getElem? (i := 8) rfl) rfl
theorem mC3_1_219 : Cond.fieldLink RX1 54 "ClaimTable$Job" "savedBits" "I" ∈ TB := tbT_1 _ (List.mem_of_getElem? (i := 219) rfl) rfl
theorem mC3_2_146 : Cond.fieldLink RX6 46 "ClaimTable$Table" "size" "I" ∈ TB := tbT_2 _ (List.mem_of_getElem? (i := 146) rfl) rfl
theorem mC3_2_66 : Cond.fieldLinkNest RX6 150 "ClaimTable$Session" "savepoints" "I" "ClaimTable" ∈ NB := nbT_2 _ (List.mem_of_getElem? (i := 66) rfl) rfl
theorem mC3_2_126 : Cond.fieldLink RX6 11 "ClaimTable$Table" "jobs" "[LClaimTable$Job;" ∈ TB := tbT_2 _ (List.mem_of_getElem? (i := 126) rfl) rfl
theorem mC3_4_232 : Cond.methodLink RX6 147 yX1_isLockedBy ∈ TB := tbT_4 _ (List.mem_of_getElem? (i := 232) rfl) rfl
theorem mC3_4_235 : Cond.code yX1_isLockedBy cX1_isLockedBy 2 (some .boolean) ∈ TB := tbT_4 _ (List.mem_of_getElem? (i := 235) rfl) rfl
theorem mC3_4_233 : Cond.instanceMethod yX1_isLockedBy ∈ TB := tbT_4 _ (List.mem_of_getElem? (i := 233) rfl) rfl
theorem mC3_4_234 : Cond.selects RX1 yX1_isLockedBy yX1_isLockedBy ∈ TB := tbT_4 _ (List.mem_of_getElem? (i := 234) rfl) rfl
theorem mC3_1_7 : Cond.initialized RX1 ∈ TB := tbT_1 _ (List.mem_of_getElem? (i := 7) rfl) rfl
theorem mC3_4_236 : Cond.methodLink RX6 153 yX1_saveAt ∈ TB := tbT_4 _ (List.mem_of_getElem? (i := 236) rfl) rfl
theorem mC3_4_239 : Cond.code yX1_saveAt cX1_saveAt 2 none ∈ TB := tbT_4 _ (List.mem_of_getElem? (i := 239) rfl) rfl
theorem mC3_4_237 : Cond.instanceMethod yX1_saveAt ∈ TB := tbT_4 _ (List.mem_of_getElem? (i := 237) rfl) rfl
theorem mC3_4_238 : Cond.selects RX1 yX1_saveAt yX1_saveAt ∈ TB := tbT_4 _ (List.mem_of_getElem? (i := 238) rfl) rfl
theorem mC3_4_228 : Cond.methodLink RX11 119 yX6_keepSavepoint ∈ TB := tbT_4 _ (List.mem_of_getElem? (i := 228) rfl) rfl
theorem mC3_4_231 : Cond.code yX6_keepSavepoint cX6_keepSavepoint 4 none ∈ TB := tbT_4 _ (List.mem_of_getElem? (i := 231) rfl) rfl
theorem mC3_4_229 : Cond.instanceMethod yX6_keepSavepoint ∈ TB := tbT_4 _ (List.mem_of_getElem? (i := 229) rfl) rfl
theorem mC3_4_230 : Cond.selects RX6 yX6_keepSavepoint yX6_keepSavepoint ∈ TB := tbT_4 _ (List.mem_of_getElem? (i := 230) rfl) rfl
theorem mC3_2_67 : Cond.fieldLinkNest RX11 116 "ClaimTable$Session" "savepoints" "I" "ClaimTable" ∈ NB := nbT_2 _ (List.mem_of_getElem? (i := 67) rfl) rfl
theorem mC3_1_221 : Cond.fieldLinkNest RX6 121 "ClaimTable$Job" "locker" "I" "ClaimTable" ∈ NB := nbT_1 _ (List.mem_of_getElem? (i := 221) rfl) rfl
theorem mC3_1_225 : Cond.fieldLinkNest RX6 117 "ClaimTable$Job" "stored" "Z" "ClaimTable" ∈ NB := nbT_1 _ (List.mem_of_getElem? (i := 225) rfl) rfl
theorem mC3_3_26 : Cond.methodLink RX6 144 yX6_removeAt ∈ TB := tbT_3 _ (List.mem_of_getElem? (i := 26) rfl) rfl
theorem mC3_3_29 : Cond.code yX6_removeAt cX6_removeAt 4 none ∈ TB := tbT_3 _ (List.mem_of_getElem? (i := 29) rfl) rfl
theorem mC3_3_28 : Cond.instanceMethod yX6_removeAt ∈ TB := tbT_3 _ (List.mem_of_getElem? (i := 28) rfl) rfl
theorem mpC3_1_0 : Cond.selects RX6 yX6_removeAt yX6_removeAt ∈ TB := tbP_1 (yX6_removeAt, 16) (List.mem_of_getElem? (i := 0) rfl)
theorem mC3_5_15 : Cond.methodLink RX6 156 yX1_isSavedAt ∈ TB := tbT_5 _ (List.mem_of_getElem? (i := 15) rfl) rfl
theorem mC3_3_68 : Cond.code yX1_isSavedAt cX1_isSavedAt 2 (some .boolean) ∈ TB := tbT_3 _ (List.mem_of_getElem? (i := 68) rfl) rfl
theorem mC3_3_66 : Cond.instanceMethod yX1_isSavedAt ∈ TB := tbT_3 _ (List.mem_of_getElem? (i := 66) rfl) rfl
theorem mC3_3_67 : Cond.selects RX1 yX1_isSavedAt yX1_isSavedAt ∈ TB := tbT_3 _ (List.mem_of_getElem? (i := 67) rfl) rfl
theorem mC3_5_20 : Cond.methodLink RX6 162 yX6_release ∈ TB := tbT_5 _ (List.mem_of_getElem? (i := 20) rfl) rfl
theorem mC3_5_23 : Cond.code yX6_release cX6_release 2 none ∈ TB := tbT_5 _ (List.mem_of_getElem? (i := 23) rfl) rfl
theorem mC3_5_22 : Cond.instanceMethod yX6_release ∈ TB := tbT_5 _ (List.mem_of_getElem? (i := 22) rfl) rfl
theorem mpC3_1_10 : Cond.selects RX6 yX6_release yX6_release ∈ TB := tbP_1 (yX6_release, 16) (List.mem_of_getElem? (i := 10) rfl)
theorem mC3_5_16 : Cond.methodLink RX6 159 yX1_returnTo ∈ TB := tbT_5 _ (List.mem_of_getElem? (i := 16) rfl) rfl
theorem mC3_5_19 : Cond.code yX1_returnTo cX1_returnTo 2 none ∈ TB := tbT_5 _ (List.mem_of_getElem? (i := 19) rfl) rfl
theorem mC3_5_17 : Cond.instanceMethod yX1_returnTo ∈ TB := tbT_5 _ (List.mem_of_getElem? (i := 17) rfl) rfl
theorem mC3_5_18 : Cond.selects RX1 yX1_returnTo yX1_returnTo ∈ TB := tbT_5 _ (List.mem_of_getElem? (i := 18) rfl) rfl
theorem mC3_5_7 : Cond.methodLink RX11 122 yX11_settleOpen ∈ TB := tbT_5 _ (List.mem_of_getElem? (i := 7) rfl) rfl
theorem mC3_5_10 : Cond.code yX11_settleOpen cX11_settleOpen 2 none ∈ TB := tbT_5 _ (List.mem_of_getElem? (i := 10) rfl) rfl
theorem mC3_5_9 : Cond.instanceMethod yX11_settleOpen ∈ TB := tbT_5 _ (List.mem_of_getElem? (i := 9) rfl) rfl
theorem mpC3_1_9 : Cond.selects RX11 yX11_settleOpen yX11_settleOpen ∈ TB := tbP_1 (yX11_settleOpen, 8) (List.mem_of_getElem? (i := 9) rfl)
theorem mC3_5_11 : Cond.methodLink RX11 125 yX6_returnToSavepoint ∈ TB := tbT_5 _ (List.mem_of_getElem? (i := 11) rfl) rfl
theorem mC3_5_14 : Cond.code yX6_returnToSavepoint cX6_returnToSavepoint 6 (some .int) ∈ TB := tbT_5 _ (List.mem_of_getElem? (i := 14) rfl) rfl
theorem mC3_5_12 : Cond.instanceMethod yX6_returnToSavepoint ∈ TB := tbT_5 _ (List.mem_of_getElem? (i := 12) rfl) rfl
theorem mC3_5_13 : Cond.selects RX6 yX6_returnToSavepoint yX6_returnToSavepoint ∈ TB := tbT_5 _ (List.mem_of_getElem? (i := 13) rfl) rfl
theorem mC3_4_45 : Cond.classLink RX11 68 "java/lang/IllegalArgumentException" ∈ TB := tbT_4 _ (List.mem_of_getElem? (i := 45) rfl) rfl
theorem mC3_1_21 : Cond.initialized "java/lang/IllegalArgumentException" ∈ TB := tbT_1 _ (List.mem_of_getElem? (i := 21) rfl) rfl
theorem mC3_1_136 : Cond.fieldLink RX2 21 "ClaimTable$Log" "first" "I" ∈ TB := tbT_1 _ (List.mem_of_getElem? (i := 136) rfl) rfl
theorem mC3_1_137 : Cond.fieldLink RX2 25 "ClaimTable$Log" "size" "I" ∈ TB := tbT_1 _ (List.mem_of_getElem? (i := 137) rfl) rfl
theorem mC3_1_135 : Cond.fieldLink RX2 11 "ClaimTable$Log" "cells" "[I" ∈ TB := tbT_1 _ (List.mem_of_getElem? (i := 135) rfl) rfl
theorem mC3_1_229 : Cond.fieldLinkNest RX2 28 "ClaimTable$Job" "number" "I" "ClaimTable" ∈ NB := nbT_1 _ (List.mem_of_getElem? (i := 229) rfl) rfl
theorem mC3_1_216 : Cond.fieldLinkNest RX2 33 "ClaimTable$Job" "own" "LClaimTable$Version;" "ClaimTable" ∈ NB := nbT_1 _ (List.mem_of_getElem? (i := 216) rfl) rfl
theorem mC3_1_160 : Cond.fieldLinkNest RX2 37 "ClaimTable$Version" "state" "I" "ClaimTable" ∈ NB := nbT_1 _ (List.mem_of_getElem? (i := 160) rfl) rfl
theorem mC3_1_179 : Cond.fieldLinkNest RX2 42 "ClaimTable$Version" "token" "I" "ClaimTable" ∈ NB := nbT_1 _ (List.mem_of_getElem? (i := 179) rfl) rfl
theorem mC3_1_183 : Cond.fieldLinkNest RX2 45 "ClaimTable$Version" "holder" "I" "ClaimTable" ∈ NB := nbT_1 _ (List.mem_of_getElem? (i := 183) rfl) rfl
theorem mC3_1_210 : Cond.fieldLink RX1 12 "ClaimTable$Job" "base" "LClaimTable$Version;" ∈ TB := tbT_1 _ (List.mem_of_getElem? (i := 210) rfl) rfl
theorem mC3_1_223 : Cond.fieldLink RX1 50 "ClaimTable$Job" "stored" "Z" ∈ TB := tbT_1 _ (List.mem_of_getElem? (i := 223) rfl) rfl
theorem mC3_5_43 : Cond.methodLink RX6 172 yX5_close ∈ TB := tbT_5 _ (List.mem_of_getElem? (i := 43) rfl) rfl
theorem mC3_4_11 : Cond.code yX5_close cX5_close 1 none ∈ TB := tbT_4 _ (List.mem_of_getElem? (i := 11) rfl) rfl
theorem mC3_4_9 : Cond.instanceMethod yX5_close ∈ TB := tbT_4 _ (List.mem_of_getElem? (i := 9) rfl) rfl
theorem mC3_4_10 : Cond.selects RX5 yX5_close yX5_close ∈ TB := tbT_4 _ (List.mem_of_getElem? (i := 10) rfl) rfl
theorem mC3_1_9 : Cond.initialized RX5 ∈ TB := tbT_1 _ (List.mem_of_getElem? (i := 9) rfl) rfl
theorem mC3_2_144 : Cond.fieldLink RX6 39 "ClaimTable$Table" "log" "LClaimTable$Log;" ∈ TB := tbT_2 _ (List.mem_of_getElem? (i := 144) rfl) rfl
theorem mC3_2_160 : Cond.fieldLink RX6 78 "ClaimTable$Table" "mono" "I" ∈ TB := tbT_2 _ (List.mem_of_getElem? (i := 160) rfl) rfl
theorem mC3_5_35 : Cond.methodLink RX6 165 yX2_add ∈ TB := tbT_5 _ (List.mem_of_getElem? (i := 35) rfl) rfl
theorem mC3_5_38 : Cond.code yX2_add cX2_add 4 none ∈ TB := tbT_5 _ (List.mem_of_getElem? (i := 38) rfl) rfl
theorem mC3_5_36 : Cond.instanceMethod yX2_add ∈ TB := tbT_5 _ (List.mem_of_getElem? (i := 36) rfl) rfl
theorem mC3_5_37 : Cond.selects RX2 yX2_add yX2_add ∈ TB := tbT_5 _ (List.mem_of_getElem? (i := 37) rfl) rfl
theorem mC3_1_6 : Cond.initialized RX2 ∈ TB := tbT_1 _ (List.mem_of_getElem? (i := 6) rfl) rfl
theorem mC3_5_39 : Cond.methodLink RX6 169 yX1_store ∈ TB := tbT_5 _ (List.mem_of_getElem? (i := 39) rfl) rfl
theorem mC3_5_42 : Cond.code yX1_store cX1_store 1 none ∈ TB := tbT_5 _ (List.mem_of_getElem? (i := 42) rfl) rfl
theorem mC3_5_40 : Cond.instanceMethod yX1_store ∈ TB := tbT_5 _ (List.mem_of_getElem? (i := 40) rfl) rfl
theorem mC3_5_41 : Cond.selects RX1 yX1_store yX1_store ∈ TB := tbT_5 _ (List.mem_of_getElem? (i := 41) rfl) rfl
def rm_X11_settle : Room := { frames := 6, cells := 1, slots := 6, locals := 89 }
def F_X11_settle (a1 : Int32) (S : sSt) (k : sSt → Prop) (kx : String → sSt → Prop) : Prop := ∀ S1, S1 = uI S 0 0 7 a1 → ((a1 = 0 → k S1) ∧ (¬ a1 = 0 → kx "java/lang/IllegalStateException" S1))
set_option maxHeartbeats 4000000 in
set_option maxRecDepth 100000 in
theorem c_X11_settle (l : Launch) (hl0 : l.stackTraces = false) {D : va_G} {cy : Nat → ClassId} {b z : Nat} {tx : TX} {a1 : Int32} {S : sSt} {k : sSt → Prop} {kx : String → sSt → Prop} (h : F_X11_settle a1 S k kx) : vx_Met l yX11_settle (Cond.code yX11_settle cX11_settle 2 none :: TB) rm_X11_settle (va_Pc [.ref (b + adC 0 0), .int a1] (fun U => RelC D cy b z tx S U U.heap ∧ TxR tx U)) (PvC D cy b z tx k) (XeC D cy b z tx kx) 1 6 (gA b 709 z) := by
  refine vx_ofW (cc := cX11_settle) (maxL := 2) (ret := none) (by decide) rfl ?_
  intro p e s m args below meth c s₁ B hml hexc hv
  obtain ⟨rfl, hR, hT⟩ := hv
  have hX0 := hR.2.2
  have C0 : CallFix p m c cX11_settle 2 s _ TB RX11 := ⟨B.exec, B.bytes, hml, findClass_of_methodNamed B.named, fun w hw => atoms_spec B.pre w (List.mem_cons_of_mem _ hw)⟩
  have hr := B.returns
  have hlk := B.notSynchronized
  have hx := C0.1
  have hb := C0.2.1
  have hS : va_S (gA b 709 z) s.heap s.heap [] := va_S.rf
  have hl := lv_entry ([.ref (b + adC 0 0), .int a1]) (n := 2) (Nat.le_of_ble_eq_true rfl)
  rw [lg_entry_eq]
  generalize (lg_sl ([.ref (b + adC 0 0), .int a1]) ++ List.replicate (2 - (lg_sl ([.ref (b + adC 0 0), .int a1])).length) Slot.unset).toArray = ls at hl ⊢
  have hl : lv_has ls 2 [(0, .ref (b + adC 0 0)), (1, .int a1)] := hl
  show W p l e rm_X11_settle s m _ below meth c s.heap [] 0 0 (vx_MQ below (PvC D cy b z tx k) (XeC D cy b z tx kx) _ s 1 6 (gA b 709 z)) _
  unfold F_X11_settle at h
  refine lv_aload_n hx hb dX11_settle_0 rfl (lv_at hl 0 rfl) ?_
  refine lv_iload_n hx hb dX11_settle_1 rfl (lv_at hl 1 rfl) ?_
  refine pC_0_7 C0 hR hS Nat.zero_lt_one tbs_wsX110 mC3_2_216 dX11_settle_2 (fun S1 eS1 H locs hR hS => ?_)
  have h := h S1 eS1
  refine lv_iload_n hx hb dX11_settle_5 rfl (lv_at hl 1 rfl) ?_
  refine lv_if_eq (tgt := 17) hx hb dX11_settle_6 (by decide) (fun c2 => ?_) (fun c2 => ?_)
  · have h := h.1 c2
    refine vx_ret (W.widen (k := 1) (n := 6) (Nat.le_of_ble_eq_true rfl) (Nat.le_of_ble_eq_true rfl) ?_); exact rtC_v C0 hr hlk hR hS h dX11_settle_17
  · have h := h.2 c2
    exact w_throw_3 C0 hl0 hX0 hT hR hS hl.1 hexc hlk h mC3_4_206 mC3_1_24 dX11_settle_9 dX11_settle_12 dX11_settle_13 dX11_settle_16 (Nat.le_of_ble_eq_true rfl) (Nat.le_of_ble_eq_true rfl) (Nat.le_of_ble_eq_true rfl) (Nat.le_of_ble_eq_true rfl) (Nat.le_of_ble_eq_true rfl) (Nat.le_of_ble_eq_true rfl)

def rm_X6_openTransactions : Room := { frames := 0, cells := 0, slots := 0, locals := 0 }
def B_X6_openTransactions_30 (kk4 : Nat → Int32 → Int32 → sSt → Prop) (a0 : Nat) (a2 : Int32) (t0 : Int32) (t1 : Int32) (S : sSt) (k : Int32 → sSt → Prop) : Prop := ∀ x6 : Int32, x6 = (t0 + t1) → ∀ x7 : Int32, x7 = a2 + 1 → kk4 a0 x6 x7 S
set_option maxHeartbeats 4000000 in
set_option maxRecDepth 100000 in
theorem Bw_X6_openTransactions_30 {p : Program} {l : Launch} {e : Env} {s : State} {m : MethodId} {args : Array Value} {below : List Frame} {meth : Method} {c : Code} {D : va_G} {cy : Nat → ClassId} {b z : Nat} {tx : TX} (C0 : CallFix p m c cX6_openTransactions 3 s args TB RX6) (hr : meth.sig.returnType = (some .int)) (hlk : meth.locks = false) (hT : TxR tx s) {k : Int32 → sSt → Prop} {kk4 : Nat → Int32 → Int32 → sSt → Prop} (ih4 : ∀ (a0 : Nat) (a1 : Int32) (a2 : Int32) (S : sSt) (H : Heap) (locs : List Loc) (ls : Array Slot) (av0 : a0 < 3), kk4 a0 a1 a2 S → RelC D cy b z tx S s H → va_S (gA b 709 z) s.heap H locs → lv_has ls 3 [(0, .ref (b + adC 13 a0)), (1, .int a1), (2, .int a2)] → W p l e rm_X6_openTransactions s m args below meth c H locs 0 0 (MQ below (PiC D cy b z tx k) args s 0 0 (gA b 709 z)) (F0 m 4 ls [])) : ∀ (a0 : Nat) (a2 : Int32) (t0 : Int32) (t1 : Int32) (S : sSt) (H : Heap) (locs : List Loc) (ls : Array Slot) (av0 : a0 < 3), B_X6_openTransactions_30 kk4 a0 a2 t0 t1 S k → RelC D cy b z tx S s H → va_S (gA b 709 z) s.heap H locs → lv_has ls 3 [(0, .ref (b + adC 13 a0)), (2, .int a2)] → W p l e rm_X6_openTransactions s m args below meth c H locs 0 0 (MQ below (PiC D cy b z tx k) args s 0 0 (gA b 709 z)) (F0 m 30 ls [.int t1, .int t0]) := by
  intro a0 a2 t0 t1 S H locs ls av0 h hR hS hl
  have hx := C0.1
  have hb := C0.2.1
  unfold B_X6_openTransactions_30 at h
  refine lv_iadd hx hb dX6_openTransactions_30 ?_
  refine lv_topi (fun x6 ex6 => ?_)
  have h := h x6 ex6
  refine lv_istore_n (lv' := [(1, .int x6), (0, .ref (b + adC 13 a0)), (2, .int a2)]) hx hb dX6_openTransactions_31 rfl hl (by decide) rfl (fun ls hl => ?_)
  obtain ⟨x7, ex7⟩ : ∃ x7 : Int32, x7 = a2 + 1 := ⟨_, rfl⟩
  have h := h x7 ex7
  refine w_iinc (v0 := 1) (lv' := [(2, .int x7), (1, .int x6), (0, .ref (b + adC 13 a0))]) C0 dX6_openTransactions_32 hl (k := 2) rfl (by decide) (by decide) x7 ex7 rfl (fun ls hl => ?_)
  refine lv_goto (tgt := 4) hx hb dX6_openTransactions_35 (by decide) ?_
  exact ih4 a0 x6 x7 S _ _ _ av0 h hR hS (lv_sub hl [2, 1, 0] rfl)
def Bb_X6_openTransactions_4 (kk4 : Nat → Int32 → Int32 → sSt → Prop) (a0 : Nat) (a1 : Int32) (a2 : Int32) (S : sSt) (k : Int32 → sSt → Prop) : Prop := (((S.1 13 a0 7) ≤ a2 → k a1 S) ∧ (¬ (S.1 13 a0 7) ≤ a2 → ix a2 4 (fun j3 => (((S.1 24 (4 * a0 + j3) 3) = 0 → B_X6_openTransactions_30 kk4 a0 a2 a1 0 S k) ∧ (¬ (S.1 24 (4 * a0 + j3) 3) = 0 → B_X6_openTransactions_30 kk4 a0 a2 a1 1 S k)))))
set_option maxHeartbeats 4000000 in
set_option maxRecDepth 100000 in
theorem Bbw_X6_openTransactions_4 {p : Program} {l : Launch} {e : Env} {s : State} {m : MethodId} {args : Array Value} {below : List Frame} {meth : Method} {c : Code} {D : va_G} {cy : Nat → ClassId} {b z : Nat} {tx : TX} (C0 : CallFix p m c cX6_openTransactions 3 s args TB RX6) (hr : meth.sig.returnType = (some .int)) (hlk : meth.locks = false) (hT : TxR tx s) {k : Int32 → sSt → Prop} {kk4 : Nat → Int32 → Int32 → sSt → Prop} (ih4 : ∀ (a0 : Nat) (a1 : Int32) (a2 : Int32) (S : sSt) (H : Heap) (locs : List Loc) (ls : Array Slot) (av0 : a0 < 3), kk4 a0 a1 a2 S → RelC D cy b z tx S s H → va_S (gA b 709 z) s.heap H locs → lv_has ls 3 [(0, .ref (b + adC 13 a0)), (1, .int a1), (2, .int a2)] → W p l e rm_X6_openTransactions s m args below meth c H locs 0 0 (MQ below (PiC D cy b z tx k) args s 0 0 (gA b 709 z)) (F0 m 4 ls [])) : ∀ (a0 : Nat) (a1 : Int32) (a2 : Int32) (S : sSt) (H : Heap) (locs : List Loc) (ls : Array Slot) (av0 : a0 < 3), Bb_X6_openTransactions_4 kk4 a0 a1 a2 S k → RelC D cy b z tx S s H → va_S (gA b 709 z) s.heap H locs → lv_has ls 3 [(0, .ref (b + adC 13 a0)), (1, .int a1), (2, .int a2)] → W p l e rm_X6_openTransactions s m args below meth c H locs 0 0 (MQ below (PiC D cy b z tx k) args s 0 0 (gA b 709 z)) (F0 m 4 ls []) := by
  intro a0 a1 a2 S H locs ls av0 h hR hS hl
  have hx := C0.1
  have hb := C0.2.1
  unfold Bb_X6_openTransactions_4 at h
  refine lv_iload_n hx hb dX6_openTransactions_4 rfl (lv_at hl 2 rfl) ?_
  refine lv_aload_n hx hb dX6_openTransactions_5 rfl (lv_at hl 0 rfl) ?_
  refine gC_13_7 C0 hR av0 tbs_wsX60 mC3_2_150 dX6_openTransactions_6 ?_
  refine lv_icmp_ge (tgt := 38) hx hb dX6_openTransactions_9 (by decide) (fun c1 => ?_) (fun c1 => ?_)
  · have h := h.1 c1
    refine lv_iload_n hx hb dX6_openTransactions_38 rfl (lv_at hl 1 rfl) ?_
    exact rtC_i C0 hr hlk hR hS h dX6_openTransactions_39
  · have h := h.2 c1
    refine lv_iload_n hx hb dX6_openTransactions_12 rfl (lv_at hl 1 rfl) ?_
    refine lv_aload_n hx hb dX6_openTransactions_13 rfl (lv_at hl 0 rfl) ?_
    refine gC_13_1 C0 hR av0 tbs_wsX60 mC3_2_129 dX6_openTransactions_14 ?_
    have w2 : a0 < 3 := by omega
    refine lv_iload_n hx hb dX6_openTransactions_17 rfl (lv_at hl 2 rfl) ?_
    obtain ⟨j3, hj3, ej3, h⟩ := h
    refine lC_15 C0 hR w2 hj3 ej3 dX6_openTransactions_18 ?_
    have w4 : (4 * a0 + j3) < 12 := by omega
    refine gCn_24_3 C0 hR w4 tbs_wsX50 mC3_2_64 hT dX6_openTransactions_19 ?_
    refine lv_if_eq (tgt := 29) hx hb dX6_openTransactions_22 (by decide) (fun c5 => ?_) (fun c5 => ?_)
    · have h := h.1 c5
      refine lv_iconst (v := 0) hx hb dX6_openTransactions_29 (by decide) ?_
      exact Bw_X6_openTransactions_30 C0 hr hlk hT ih4 a0 a2 a1 0 S _ _ _ av0 h hR hS (lv_sub hl [0, 2] rfl)
    · have h := h.2 c5
      refine lv_iconst (v := 1) hx hb dX6_openTransactions_25 (by decide) ?_
      refine lv_goto (tgt := 30) hx hb dX6_openTransactions_26 (by decide) ?_
      exact Bw_X6_openTransactions_30 C0 hr hlk hT ih4 a0 a2 a1 1 S _ _ _ av0 h hR hS (lv_sub hl [0, 2] rfl)
def B_X6_openTransactions_4 (n9 : Nat) (a0 : Nat) (a1 : Int32) (a2 : Int32) (S : sSt) (k : Int32 → sSt → Prop) : Prop := (Nat.rec (motive := fun _ => Nat → Int32 → Int32 → sSt → Prop) (fun _ _ _ _ => False) (fun _ r9 => fun a0 a1 a2 S => Bb_X6_openTransactions_4 r9 a0 a1 a2 S k) n9 : Nat → Int32 → Int32 → sSt → Prop) a0 a1 a2 S
theorem B_X6_openTransactions_4_s (n9 : Nat) (a0 : Nat) (a1 : Int32) (a2 : Int32) (S : sSt) (k : Int32 → sSt → Prop) : B_X6_openTransactions_4 (n9 + 1) a0 a1 a2 S k = Bb_X6_openTransactions_4 (fun a0 a1 a2 S => B_X6_openTransactions_4 n9 a0 a1 a2 S k) a0 a1 a2 S k := rfl
set_option maxHeartbeats 4000000 in
set_option maxRecDepth 100000 in
theorem Bw_X6_openTransactions_4 {p : Program} {l : Launch} {e : Env} {s : State} {m : MethodId} {args : Array Value} {below : List Frame} {meth : Method} {c : Code} {D : va_G} {cy : Nat → ClassId} {b z : Nat} {tx : TX} (C0 : CallFix p m c cX6_openTransactions 3 s args TB RX6) (hr : meth.sig.returnType = (some .int)) (hlk : meth.locks = false) (hT : TxR tx s) {k : Int32 → sSt → Prop} : ∀ (n9 : Nat), ∀ (a0 : Nat) (a1 : Int32) (a2 : Int32) (S : sSt) (H : Heap) (locs : List Loc) (ls : Array Slot) (av0 : a0 < 3), B_X6_openTransactions_4 n9 a0 a1 a2 S k → RelC D cy b z tx S s H → va_S (gA b 709 z) s.heap H locs → lv_has ls 3 [(0, .ref (b + adC 13 a0)), (1, .int a1), (2, .int a2)] → W p l e rm_X6_openTransactions s m args below meth c H locs 0 0 (MQ below (PiC D cy b z tx k) args s 0 0 (gA b 709 z)) (F0 m 4 ls []) := by
  intro n9
  induction n9 with
  | zero => intro a0 a1 a2 S H locs ls av0 h; exact h.elim
  | succ n9 ih =>
    intro a0 a1 a2 S H locs ls av0 h hR hS hl
    exact Bbw_X6_openTransactions_4 C0 hr hlk hT ih a0 a1 a2 S H locs ls av0 h hR hS hl
def F_X6_openTransactions (a0 : Nat) (S : sSt) (k : Int32 → sSt → Prop) : Prop := B_X6_openTransactions_4 fuel a0 0 0 S k
set_option maxHeartbeats 4000000 in
set_option maxRecDepth 100000 in
theorem c_X6_openTransactions (l : Launch) {D : va_G} {cy : Nat → ClassId} {b z : Nat} {tx : TX} {a0 : Nat} {S : sSt} {k : Int32 → sSt → Prop} (av0 : a0 < 3) (h : F_X6_openTransactions a0 S k) : Met l yX6_openTransactions (Cond.code yX6_openTransactions cX6_openTransactions 3 (some .int) :: TB) rm_X6_openTransactions (va_Pc [.ref (b + adC 13 a0)] (fun U => RelC D cy b z tx S U U.heap ∧ TxR tx U)) (PiC D cy b z tx k) 0 0 (gA b 709 z) := by
  refine Met.ofW (cc := cX6_openTransactions) (maxL := 3) (ret := (some .int)) (by decide) rfl ?_
  intro p e s m args below meth c s₁ B hml hv
  obtain ⟨rfl, hR, hT⟩ := hv
  have C0 : CallFix p m c cX6_openTransactions 3 s _ TB RX6 := ⟨B.exec, B.bytes, hml, findClass_of_methodNamed B.named, fun w hw => atoms_spec B.pre w (List.mem_cons_of_mem _ hw)⟩
  have hr := B.returns
  have hlk := B.notSynchronized
  have hx := C0.1
  have hb := C0.2.1
  have hS : va_S (gA b 709 z) s.heap s.heap [] := va_S.rf
  have hl := lv_entry ([.ref (b + adC 13 a0)]) (n := 3) (Nat.le_of_ble_eq_true rfl)
  rw [lg_entry_eq]
  generalize (lg_sl ([.ref (b + adC 13 a0)]) ++ List.replicate (3 - (lg_sl ([.ref (b + adC 13 a0)])).length) Slot.unset).toArray = ls at hl ⊢
  have hl : lv_has ls 3 [(0, .ref (b + adC 13 a0))] := hl
  show W p l e rm_X6_openTransactions s m _ below meth c s.heap [] 0 0 (MQ below (PiC D cy b z tx k) _ s 0 0 (gA b 709 z)) _
  unfold F_X6_openTransactions at h
  refine lv_iconst (v := 0) hx hb dX6_openTransactions_0 (by decide) ?_
  refine lv_istore_n (lv' := [(1, .int 0), (0, .ref (b + adC 13 a0))]) hx hb dX6_openTransactions_1 rfl hl (by decide) rfl (fun ls hl => ?_)
  refine lv_iconst (v := 0) hx hb dX6_openTransactions_2 (by decide) ?_
  refine lv_istore_n (lv' := [(2, .int 0), (1, .int 0), (0, .ref (b + adC 13 a0))]) hx hb dX6_openTransactions_3 rfl hl (by decide) rfl (fun ls hl => ?_)
  exact Bw_X6_openTransactions_4 C0 hr hlk hT fuel a0 0 0 S _ _ _ av0 h hR hS (lv_sub hl [2, 1, 0] rfl)

def rm_X11_begin : Room := { frames := 7, cells := 2, slots := 12, locals := 110 }
def B_X11_begin_26 (a1 : Int32) (t1 : Int32) (S : sSt) (k : Int32 → sSt → Prop) (kx : String → sSt → Prop) : Prop := F_X11_settle t1 S (fun S9 => ix a1 4 (fun j12 => ∀ S14, S14 = uI S9 24 (4 * (S9.2 0 0 4) + j12) 3 1 → F_X6_openTransactions (S14.2 0 0 4) S14 (fun r16 S17 => k r16 S17))) kx
set_option maxHeartbeats 4000000 in
set_option maxRecDepth 100000 in
theorem Bw_X11_begin_26 {p : Program} {l : Launch} {e : Env} {s : State} {m : MethodId} {args : Array Value} {below : List Frame} {meth : Method} {c : Code} {D : va_G} {cy : Nat → ClassId} {b z : Nat} {tx : TX} (C0 : CallFix p m c cX11_begin 2 s args TB RX11) (hr : meth.sig.returnType = (some .int)) (hlk : meth.locks = false) (hT : TxR tx s) (hl0 : l.stackTraces = false) (hX0 : TxP tx b z s s.heap) (hexc : ∀ x ∈ c.exceptionTable.toList, False) {k : Int32 → sSt → Prop} {kx : String → sSt → Prop} : ∀ (a1 : Int32) (t1 : Int32) (S : sSt) (H : Heap) (locs : List Loc) (ls : Array Slot) , B_X11_begin_26 a1 t1 S k kx → RelC D cy b z tx S s H → va_S (gA b 709 z) s.heap H locs → lv_has ls 2 [(0, .ref (b + adC 0 0)), (1, .int a1)] → W p l e rm_X11_begin s m args below meth c H locs 1 6 (vx_MQ below (PiC D cy b z tx k) (XeC D cy b z tx kx) args s 2 12 (gA b 709 z)) (F0 m 26 ls [.int t1, .ref (b + adC 0 0)]) := by
  intro a1 t1 S H locs ls h hR hS hl
  have hx := C0.1
  have hb := C0.2.1
  unfold B_X11_begin_26 at h
  refine qx_Vv (As := [.int t1]) (rest := []) C0 hlk hexc (c_X11_settle l hl0 h) (cwV 1 C0.2.2.2.2 (tbV mC3_4_202 ⟨mC3_4_204, mpC3_1_8, mC3_1_1, mC3_4_205⟩) rfl rfl rfl (by decide +kernel) ⟨Nat.le_of_ble_eq_true rfl, Nat.le_of_ble_eq_true rfl⟩) (rcC_0 hR Nat.zero_lt_one) hR hT hS rfl hl.1 rfl (Nat.le_of_ble_eq_true rfl) dX11_begin_26 ⟨Nat.le_of_ble_eq_true rfl, Nat.le_of_ble_eq_true rfl⟩ ⟨Nat.le_of_ble_eq_true rfl, Nat.le_of_ble_eq_true rfl⟩ (fun S9 H locs h hR hS => ?_)
  refine lv_aload_n hx hb dX11_begin_29 rfl (lv_at hl 0 rfl) ?_
  refine gC_0_4 C0 hR Nat.zero_lt_one tbs_wsX110 mC3_2_213 dX11_begin_30 ?_
  have w10 : (S9.2 0 0 4) < 3 := hR.2.1.2.1
  refine gCn_13_1 C0 hR w10 tbs_wsX60 mC3_2_131 hT dX11_begin_33 ?_
  have w11 : (S9.2 0 0 4) < 3 := by omega
  refine lv_iload_n hx hb dX11_begin_36 rfl (lv_at hl 1 rfl) ?_
  obtain ⟨j12, hj12, ej12, h⟩ := h
  refine lC_15 C0 hR w11 hj12 ej12 dX11_begin_37 ?_
  have w13 : (4 * (S9.2 0 0 4) + j12) < 12 := by omega
  refine lv_iconst (v := 1) hx hb dX11_begin_38 (by decide) ?_
  refine pCn_24_3 C0 hR hS w13 tbs_wsX50 mC3_2_63 hT (by decide) dX11_begin_39 (fun S14 eS14 H locs hR hS => ?_)
  have h := h S14 eS14
  refine lv_aload_n hx hb dX11_begin_42 rfl (lv_at hl 0 rfl) ?_
  refine gC_0_4 C0 hR Nat.zero_lt_one tbs_wsX110 mC3_2_213 dX11_begin_43 ?_
  have w15 : (S14.2 0 0 4) < 3 := hR.2.1.2.1
  refine qC_Vi (As := []) (rest := []) C0 (c_X6_openTransactions l w15 h) (cwV 0 C0.2.2.2.2 (tbV mC3_3_101 ⟨mC3_3_102, mC3_3_103, mC3_1_5, mC3_3_104⟩) rfl rfl rfl (by decide +kernel) ⟨Nat.le_of_ble_eq_true rfl, Nat.le_of_ble_eq_true rfl⟩) (rcC_13 hR w15) hR hT hS rfl hl.1 rfl (Nat.le_of_ble_eq_true rfl) dX11_begin_46 ⟨Nat.le_of_ble_eq_true rfl, Nat.le_of_ble_eq_true rfl⟩ (fun r16 S17 H locs h hR hS => ?_)
  refine vx_ret (W.widen (k := 2) (n := 12) (Nat.le_of_ble_eq_true rfl) (Nat.le_of_ble_eq_true rfl) ?_); exact rtC_i C0 hr hlk hR hS h dX11_begin_49
def F_X11_begin (a1 : Int32) (S : sSt) (k : Int32 → sSt → Prop) (kx : String → sSt → Prop) : Prop := F_X11_needSession a1 S (fun S2 => ix a1 4 (fun j5 => (((S2.1 24 (4 * (S2.2 0 0 4) + j5) 3) = 0 → B_X11_begin_26 a1 0 S2 k kx) ∧ (¬ (S2.1 24 (4 * (S2.2 0 0 4) + j5) 3) = 0 → B_X11_begin_26 a1 1 S2 k kx)))) kx
set_option maxHeartbeats 4000000 in
set_option maxRecDepth 100000 in
theorem c_X11_begin (l : Launch) (hl0 : l.stackTraces = false) {D : va_G} {cy : Nat → ClassId} {b z : Nat} {tx : TX} {a1 : Int32} {S : sSt} {k : Int32 → sSt → Prop} {kx : String → sSt → Prop} (h : F_X11_begin a1 S k kx) : vx_Met l yX11_begin (Cond.code yX11_begin cX11_begin 2 (some .int) :: TB) rm_X11_begin (va_Pc [.ref (b + adC 0 0), .int a1] (fun U => RelC D cy b z tx S U U.heap ∧ TxR tx U)) (PiC D cy b z tx k) (XeC D cy b z tx kx) 2 12 (gA b 709 z) := by
  refine vx_ofW (cc := cX11_begin) (maxL := 2) (ret := (some .int)) (by decide) rfl ?_
  intro p e s m args below meth c s₁ B hml hexc hv
  obtain ⟨rfl, hR, hT⟩ := hv
  have hX0 := hR.2.2
  have C0 : CallFix p m c cX11_begin 2 s _ TB RX11 := ⟨B.exec, B.bytes, hml, findClass_of_methodNamed B.named, fun w hw => atoms_spec B.pre w (List.mem_cons_of_mem _ hw)⟩
  have hr := B.returns
  have hlk := B.notSynchronized
  have hx := C0.1
  have hb := C0.2.1
  have hS : va_S (gA b 709 z) s.heap s.heap [] := va_S.rf
  have hl := lv_entry ([.ref (b + adC 0 0), .int a1]) (n := 2) (Nat.le_of_ble_eq_true rfl)
  rw [lg_entry_eq]
  generalize (lg_sl ([.ref (b + adC 0 0), .int a1]) ++ List.replicate (2 - (lg_sl ([.ref (b + adC 0 0), .int a1])).length) Slot.unset).toArray = ls at hl ⊢
  have hl : lv_has ls 2 [(0, .ref (b + adC 0 0)), (1, .int a1)] := hl
  show W p l e rm_X11_begin s m _ below meth c s.heap [] 0 0 (vx_MQ below (PiC D cy b z tx k) (XeC D cy b z tx kx) _ s 2 12 (gA b 709 z)) _
  unfold F_X11_begin at h
  refine lv_aload_n hx hb dX11_begin_0 rfl (lv_at hl 0 rfl) ?_
  refine lv_iload_n hx hb dX11_begin_1 rfl (lv_at hl 1 rfl) ?_
  refine qx_Vv (As := [.int a1]) (rest := []) C0 hlk hexc (c_X11_needSession l hl0 h) (cwV 1 C0.2.2.2.2 (tbV mC3_4_133 ⟨mC3_4_135, mpC3_1_5, mC3_1_1, mC3_4_136⟩) rfl rfl rfl (by decide +kernel) ⟨Nat.le_of_ble_eq_true rfl, Nat.le_of_ble_eq_true rfl⟩) (rcC_0 hR Nat.zero_lt_one) hR hT hS rfl hl.1 rfl (Nat.le_of_ble_eq_true rfl) dX11_begin_2 ⟨Nat.le_of_ble_eq_true rfl, Nat.le_of_ble_eq_true rfl⟩ ⟨Nat.le_of_ble_eq_true rfl, Nat.le_of_ble_eq_true rfl⟩ (fun S2 H locs h hR hS => ?_)
  refine lv_aload_n hx hb dX11_begin_5 rfl (lv_at hl 0 rfl) ?_
  refine lv_aload_n hx hb dX11_begin_6 rfl (lv_at hl 0 rfl) ?_
  refine gC_0_4 C0 hR Nat.zero_lt_one tbs_wsX110 mC3_2_213 dX11_begin_7 ?_
  have w3 : (S2.2 0 0 4) < 3 := hR.2.1.2.1
  refine gCn_13_1 C0 hR w3 tbs_wsX60 mC3_2_131 hT dX11_begin_10 ?_
  have w4 : (S2.2 0 0 4) < 3 := by omega
  refine lv_iload_n hx hb dX11_begin_13 rfl (lv_at hl 1 rfl) ?_
  obtain ⟨j5, hj5, ej5, h⟩ := h
  refine lC_15 C0 hR w4 hj5 ej5 dX11_begin_14 ?_
  have w6 : (4 * (S2.2 0 0 4) + j5) < 12 := by omega
  refine gCn_24_3 C0 hR w6 tbs_wsX50 mC3_2_63 hT dX11_begin_15 ?_
  refine lv_if_eq (tgt := 25) hx hb dX11_begin_18 (by decide) (fun c7 => ?_) (fun c7 => ?_)
  · have h := h.1 c7
    refine lv_iconst (v := 0) hx hb dX11_begin_25 (by decide) ?_
    refine W.widen (k := 1) (n := 6) (Nat.le_of_ble_eq_true rfl) (Nat.le_of_ble_eq_true rfl) ?_
    exact Bw_X11_begin_26 C0 hr hlk hT hl0 hX0 hexc a1 0 S2 _ _ _ h hR hS (lv_sub hl [0, 1] rfl)
  · have h := h.2 c7
    refine lv_iconst (v := 1) hx hb dX11_begin_21 (by decide) ?_
    refine lv_goto (tgt := 26) hx hb dX11_begin_22 (by decide) ?_
    refine W.widen (k := 1) (n := 6) (Nat.le_of_ble_eq_true rfl) (Nat.le_of_ble_eq_true rfl) ?_
    exact Bw_X11_begin_26 C0 hr hlk hT hl0 hX0 hexc a1 1 S2 _ _ _ h hR hS (lv_sub hl [0, 1] rfl)

def rm_X1_isLockedBy : Room := { frames := 0, cells := 0, slots := 0, locals := 0 }
def F_X1_isLockedBy (a0 : Nat) (a1 : Int32) (S : sSt) (k : Int32 → sSt → Prop) : Prop := (((S.1 21 a0 4) = (-1) → k 0 S) ∧ (¬ (S.1 21 a0 4) = (-1) → ((¬ (S.1 21 a0 4) = a1 → k 0 S) ∧ ((S.1 21 a0 4) = a1 → k 1 S))))
set_option maxHeartbeats 4000000 in
set_option maxRecDepth 100000 in
theorem c_X1_isLockedBy (l : Launch) {D : va_G} {cy : Nat → ClassId} {b z : Nat} {tx : TX} {a0 : Nat} {a1 : Int32} {S : sSt} {k : Int32 → sSt → Prop} (av0 : a0 < 72) (h : F_X1_isLockedBy a0 a1 S k) : Met l yX1_isLockedBy (Cond.code yX1_isLockedBy cX1_isLockedBy 2 (some .boolean) :: TB) rm_X1_isLockedBy (va_Pc [.ref (b + adC 21 a0), .int a1] (fun U => RelC D cy b z tx S U U.heap ∧ TxR tx U)) (PiC D cy b z tx k) 0 0 (gA b 709 z) := by
  refine Met.ofW (cc := cX1_isLockedBy) (maxL := 2) (ret := (some .boolean)) (by decide) rfl ?_
  intro p e s m args below meth c s₁ B hml hv
  obtain ⟨rfl, hR, hT⟩ := hv
  have C0 : CallFix p m c cX1_isLockedBy 2 s _ TB RX1 := ⟨B.exec, B.bytes, hml, findClass_of_methodNamed B.named, fun w hw => atoms_spec B.pre w (List.mem_cons_of_mem _ hw)⟩
  have hr := B.returns
  have hlk := B.notSynchronized
  have hx := C0.1
  have hb := C0.2.1
  have hS : va_S (gA b 709 z) s.heap s.heap [] := va_S.rf
  have hl := lv_entry ([.ref (b + adC 21 a0), .int a1]) (n := 2) (Nat.le_of_ble_eq_true rfl)
  rw [lg_entry_eq]
  generalize (lg_sl ([.ref (b + adC 21 a0), .int a1]) ++ List.replicate (2 - (lg_sl ([.ref (b + adC 21 a0), .int a1])).length) Slot.unset).toArray = ls at hl ⊢
  have hl : lv_has ls 2 [(0, .ref (b + adC 21 a0)), (1, .int a1)] := hl
  show W p l e rm_X1_isLockedBy s m _ below meth c s.heap [] 0 0 (MQ below (PiC D cy b z tx k) _ s 0 0 (gA b 709 z)) _
  unfold F_X1_isLockedBy at h
  refine lv_aload_n hx hb dX1_isLockedBy_0 rfl (lv_at hl 0 rfl) ?_
  refine gC_21_4 C0 hR av0 tbs_wsX10 mC3_1_220 dX1_isLockedBy_1 ?_
  refine lv_iconst (v := (-1)) hx hb dX1_isLockedBy_4 (by decide) ?_
  refine lv_icmp_eq (tgt := 20) hx hb dX1_isLockedBy_5 (by decide) (fun c1 => ?_) (fun c1 => ?_)
  · have h := h.1 c1
    refine lv_iconst (v := 0) hx hb dX1_isLockedBy_20 (by decide) ?_
    exact rtC_z C0 hr hlk hR hS (by decide) h dX1_isLockedBy_21
  · have h := h.2 c1
    refine lv_aload_n hx hb dX1_isLockedBy_8 rfl (lv_at hl 0 rfl) ?_
    refine gC_21_4 C0 hR av0 tbs_wsX10 mC3_1_220 dX1_isLockedBy_9 ?_
    refine lv_iload_n hx hb dX1_isLockedBy_12 rfl (lv_at hl 1 rfl) ?_
    refine lv_icmp_ne (tgt := 20) hx hb dX1_isLockedBy_13 (by decide) (fun c2 => ?_) (fun c2 => ?_)
    · have h := h.1 c2
      refine lv_iconst (v := 0) hx hb dX1_isLockedBy_20 (by decide) ?_
      exact rtC_z C0 hr hlk hR hS (by decide) h dX1_isLockedBy_21
    · have h := h.2 c2
      refine lv_iconst (v := 1) hx hb dX1_isLockedBy_16 (by decide) ?_
      refine lv_goto (tgt := 21) hx hb dX1_isLockedBy_17 (by decide) ?_
      exact rtC_z C0 hr hlk hR hS (by decide) h dX1_isLockedBy_21

def rm_X1_saveAt : Room := { frames := 1, cells := 0, slots := 0, locals := 21 }
def F_X1_saveAt (a0 : Nat) (a1 : Int32) (S : sSt) (k : sSt → Prop) : Prop := ((a1 < 0 → k S) ∧ (¬ a1 < 0 → ((4 ≤ a1 → k S) ∧ (¬ 4 ≤ a1 → ix a1 4 (fun j5 => F_X9_copyFrom (6 * a0 + 2 + j5) (6 * a0 + 1) S (fun S9 => ∀ S10, S10 = uI S9 21 a0 3 ((S9.1 21 a0 3) ||| (1 <<< (a1 &&& 31))) → k S10))))))
set_option maxHeartbeats 4000000 in
set_option maxRecDepth 100000 in
theorem c_X1_saveAt (l : Launch) {D : va_G} {cy : Nat → ClassId} {b z : Nat} {tx : TX} {a0 : Nat} {a1 : Int32} {S : sSt} {k : sSt → Prop} (av0 : a0 < 72) (h : F_X1_saveAt a0 a1 S k) : Met l yX1_saveAt (Cond.code yX1_saveAt cX1_saveAt 2 none :: TB) rm_X1_saveAt (va_Pc [.ref (b + adC 21 a0), .int a1] (fun U => RelC D cy b z tx S U U.heap ∧ TxR tx U)) (PvC D cy b z tx k) 0 0 (gA b 709 z) := by
  refine Met.ofW (cc := cX1_saveAt) (maxL := 2) (ret := none) (by decide) rfl ?_
  intro p e s m args below meth c s₁ B hml hv
  obtain ⟨rfl, hR, hT⟩ := hv
  have C0 : CallFix p m c cX1_saveAt 2 s _ TB RX1 := ⟨B.exec, B.bytes, hml, findClass_of_methodNamed B.named, fun w hw => atoms_spec B.pre w (List.mem_cons_of_mem _ hw)⟩
  have hr := B.returns
  have hlk := B.notSynchronized
  have hx := C0.1
  have hb := C0.2.1
  have hS : va_S (gA b 709 z) s.heap s.heap [] := va_S.rf
  have hl := lv_entry ([.ref (b + adC 21 a0), .int a1]) (n := 2) (Nat.le_of_ble_eq_true rfl)
  rw [lg_entry_eq]
  generalize (lg_sl ([.ref (b + adC 21 a0), .int a1]) ++ List.replicate (2 - (lg_sl ([.ref (b + adC 21 a0), .int a1])).length) Slot.unset).toArray = ls at hl ⊢
  have hl : lv_has ls 2 [(0, .ref (b + adC 21 a0)), (1, .int a1)] := hl
  show W p l e rm_X1_saveAt s m _ below meth c s.heap [] 0 0 (MQ below (PvC D cy b z tx k) _ s 0 0 (gA b 709 z)) _
  unfold F_X1_saveAt at h
  refine lv_iload_n hx hb dX1_saveAt_0 rfl (lv_at hl 1 rfl) ?_
  refine lv_if_lt (tgt := 38) hx hb dX1_saveAt_1 (by decide) (fun c1 => ?_) (fun c1 => ?_)
  · have h := h.1 c1
    exact rtC_v C0 hr hlk hR hS h dX1_saveAt_38
  · have h := h.2 c1
    refine lv_iload_n hx hb dX1_saveAt_4 rfl (lv_at hl 1 rfl) ?_
    refine lv_aload_n hx hb dX1_saveAt_5 rfl (lv_at hl 0 rfl) ?_
    refine gC_21_2 C0 hR av0 tbs_wsX10 mC3_1_218 dX1_saveAt_6 ?_
    have w2 : a0 < 72 := by omega
    refine nC_23 C0 hR w2 dX1_saveAt_9 ?_
    refine lv_icmp_ge (tgt := 38) hx hb dX1_saveAt_10 (by decide) (fun c3 => ?_) (fun c3 => ?_)
    · have h := h.1 c3
      exact rtC_v C0 hr hlk hR hS h dX1_saveAt_38
    · have h := h.2 c3
      refine lv_aload_n hx hb dX1_saveAt_13 rfl (lv_at hl 0 rfl) ?_
      refine gC_21_2 C0 hR av0 tbs_wsX10 mC3_1_218 dX1_saveAt_14 ?_
      have w4 : a0 < 72 := by omega
      refine lv_iload_n hx hb dX1_saveAt_17 rfl (lv_at hl 1 rfl) ?_
      obtain ⟨j5, hj5, ej5, h⟩ := h
      refine lC_23 C0 hR w4 hj5 ej5 dX1_saveAt_18 ?_
      have w6 : (6 * a0 + 2 + j5) < 432 := by omega
      refine lv_aload_n hx hb dX1_saveAt_19 rfl (lv_at hl 0 rfl) ?_
      refine gC_21_1 C0 hR av0 tbs_wsX10 mC3_1_215 dX1_saveAt_20 ?_
      have w7 : (6 * a0 + 1) < 432 := by omega
      refine qC_Vv (As := [.ref (b + adC 22 (6 * a0 + 1))]) (rest := []) C0 (c_X9_copyFrom l w6 w7 h) (cwV 1 C0.2.2.2.2 (tbV mC3_3_61 ⟨mC3_3_62, mC3_3_63, mC3_1_8, mC3_3_64⟩) rfl rfl rfl (by decide +kernel) ⟨Nat.le_of_ble_eq_true rfl, Nat.le_of_ble_eq_true rfl⟩) (rcC_22 hR w6) hR hT hS rfl hl.1 rfl (Nat.le_of_ble_eq_true rfl) dX1_saveAt_23 ⟨Nat.zero_le _, Nat.zero_le _⟩ (fun S9 H locs h hR hS => ?_)
      refine lv_aload_n hx hb dX1_saveAt_26 rfl (lv_at hl 0 rfl) ?_
      refine lv_dup hx hb dX1_saveAt_27 rfl ?_
      refine gC_21_3 C0 hR av0 tbs_wsX10 mC3_1_219 dX1_saveAt_28 ?_
      refine lv_iconst (v := 1) hx hb dX1_saveAt_31 (by decide) ?_
      refine lv_iload_n hx hb dX1_saveAt_32 rfl (lv_at hl 1 rfl) ?_
      refine lv_ishl hx hb dX1_saveAt_33 ?_
      refine lv_ior hx hb dX1_saveAt_34 ?_
      refine pC_21_3 C0 hR hS av0 tbs_wsX10 mC3_1_219 dX1_saveAt_35 (fun S10 eS10 H locs hR hS => ?_)
      have h := h S10 eS10
      exact rtC_v C0 hr hlk hR hS h dX1_saveAt_38

def rm_X6_keepSavepoint : Room := { frames := 2, cells := 0, slots := 0, locals := 42 }
def B_X6_keepSavepoint_43 (kk9 : Nat → Int32 → Nat → Int32 → sSt → Prop) (a0 : Nat) (a1 : Int32) (a2 : Nat) (a3 : Int32) (S : sSt) (k : sSt → Prop) : Prop := ∀ x12 : Int32, x12 = a3 + 1 → kk9 a0 a1 a2 x12 S
set_option maxHeartbeats 4000000 in
set_option maxRecDepth 100000 in
theorem Bw_X6_keepSavepoint_43 {p : Program} {l : Launch} {e : Env} {s : State} {m : MethodId} {args : Array Value} {below : List Frame} {meth : Method} {c : Code} {D : va_G} {cy : Nat → ClassId} {b z : Nat} {tx : TX} (C0 : CallFix p m c cX6_keepSavepoint 4 s args TB RX6) (hr : meth.sig.returnType = none) (hlk : meth.locks = false) (hT : TxR tx s) {k : sSt → Prop} {kk9 : Nat → Int32 → Nat → Int32 → sSt → Prop} (ih9 : ∀ (a0 : Nat) (a1 : Int32) (a2 : Nat) (a3 : Int32) (S : sSt) (H : Heap) (locs : List Loc) (ls : Array Slot) (av0 : a0 < 3) (av2 : a2 < 12), kk9 a0 a1 a2 a3 S → RelC D cy b z tx S s H → va_S (gA b 709 z) s.heap H locs → lv_has ls 4 [(0, .ref (b + adC 13 a0)), (1, .int a1), (2, .ref (b + adC 24 a2)), (3, .int a3)] → W p l e rm_X6_keepSavepoint s m args below meth c H locs 0 0 (MQ below (PvC D cy b z tx k) args s 0 0 (gA b 709 z)) (F0 m 9 ls [])) : ∀ (a0 : Nat) (a1 : Int32) (a2 : Nat) (a3 : Int32) (S : sSt) (H : Heap) (locs : List Loc) (ls : Array Slot) (av0 : a0 < 3) (av2 : a2 < 12), B_X6_keepSavepoint_43 kk9 a0 a1 a2 a3 S k → RelC D cy b z tx S s H → va_S (gA b 709 z) s.heap H locs → lv_has ls 4 [(0, .ref (b + adC 13 a0)), (1, .int a1), (2, .ref (b + adC 24 a2)), (3, .int a3)] → W p l e rm_X6_keepSavepoint s m args below meth c H locs 0 0 (MQ below (PvC D cy b z tx k) args s 0 0 (gA b 709 z)) (F0 m 43 ls []) := by
  intro a0 a1 a2 a3 S H locs ls av0 av2 h hR hS hl
  have hx := C0.1
  have hb := C0.2.1
  unfold B_X6_keepSavepoint_43 at h
  obtain ⟨x12, ex12⟩ : ∃ x12 : Int32, x12 = a3 + 1 := ⟨_, rfl⟩
  have h := h x12 ex12
  refine w_iinc (v0 := 1) (lv' := [(3, .int x12), (0, .ref (b + adC 13 a0)), (1, .int a1), (2, .ref (b + adC 24 a2))]) C0 dX6_keepSavepoint_43 hl (k := 3) rfl (by decide) (by decide) x12 ex12 rfl (fun ls hl => ?_)
  refine lv_goto (tgt := 9) hx hb dX6_keepSavepoint_46 (by decide) ?_
  exact ih9 a0 a1 a2 x12 S _ _ _ av0 av2 h hR hS (lv_sub hl [1, 2, 3, 0] rfl)
def Bb_X6_keepSavepoint_9 (kk9 : Nat → Int32 → Nat → Int32 → sSt → Prop) (a0 : Nat) (a1 : Int32) (a2 : Nat) (a3 : Int32) (S : sSt) (k : sSt → Prop) : Prop := (((S.1 13 a0 6) ≤ a3 → ∀ S5, S5 = uI S 24 a2 4 ((S.1 24 a2 4) + 1) → k S5) ∧ (¬ (S.1 13 a0 6) ≤ a3 → ix a3 24 (fun j7 => F_X1_isLockedBy (S.2 14 a0 j7) a1 S (fun r9 S10 => ((r9 = 0 → B_X6_keepSavepoint_43 kk9 a0 a1 a2 a3 S10 k) ∧ (¬ r9 = 0 → F_X1_saveAt (S10.2 14 a0 j7) (S10.1 24 a2 4) S10 (fun S16 => B_X6_keepSavepoint_43 kk9 a0 a1 a2 a3 S16 k)))))))
set_option maxHeartbeats 4000000 in
set_option maxRecDepth 100000 in
theorem Bbw_X6_keepSavepoint_9 {p : Program} {l : Launch} {e : Env} {s : State} {m : MethodId} {args : Array Value} {below : List Frame} {meth : Method} {c : Code} {D : va_G} {cy : Nat → ClassId} {b z : Nat} {tx : TX} (C0 : CallFix p m c cX6_keepSavepoint 4 s args TB RX6) (hr : meth.sig.returnType = none) (hlk : meth.locks = false) (hT : TxR tx s) {k : sSt → Prop} {kk9 : Nat → Int32 → Nat → Int32 → sSt → Prop} (ih9 : ∀ (a0 : Nat) (a1 : Int32) (a2 : Nat) (a3 : Int32) (S : sSt) (H : Heap) (locs : List Loc) (ls : Array Slot) (av0 : a0 < 3) (av2 : a2 < 12), kk9 a0 a1 a2 a3 S → RelC D cy b z tx S s H → va_S (gA b 709 z) s.heap H locs → lv_has ls 4 [(0, .ref (b + adC 13 a0)), (1, .int a1), (2, .ref (b + adC 24 a2)), (3, .int a3)] → W p l e rm_X6_keepSavepoint s m args below meth c H locs 0 0 (MQ below (PvC D cy b z tx k) args s 0 0 (gA b 709 z)) (F0 m 9 ls [])) : ∀ (a0 : Nat) (a1 : Int32) (a2 : Nat) (a3 : Int32) (S : sSt) (H : Heap) (locs : List Loc) (ls : Array Slot) (av0 : a0 < 3) (av2 : a2 < 12), Bb_X6_keepSavepoint_9 kk9 a0 a1 a2 a3 S k → RelC D cy b z tx S s H → va_S (gA b 709 z) s.heap H locs → lv_has ls 4 [(0, .ref (b + adC 13 a0)), (1, .int a1), (2, .ref (b + adC 24 a2)), (3, .int a3)] → W p l e rm_X6_keepSavepoint s m args below meth c H locs 0 0 (MQ below (PvC D cy b z tx k) args s 0 0 (gA b 709 z)) (F0 m 9 ls []) := by
  intro a0 a1 a2 a3 S H locs ls av0 av2 h hR hS hl
  have hx := C0.1
  have hb := C0.2.1
  unfold Bb_X6_keepSavepoint_9 at h
  refine lv_iload_n hx hb dX6_keepSavepoint_9 rfl (lv_at hl 3 rfl) ?_
  refine lv_aload_n hx hb dX6_keepSavepoint_10 rfl (lv_at hl 0 rfl) ?_
  refine gC_13_6 C0 hR av0 tbs_wsX60 mC3_2_146 dX6_keepSavepoint_11 ?_
  refine lv_icmp_ge (tgt := 49) hx hb dX6_keepSavepoint_14 (by decide) (fun c4 => ?_) (fun c4 => ?_)
  · have h := h.1 c4
    refine lv_aload_n hx hb dX6_keepSavepoint_49 rfl (lv_at hl 2 rfl) ?_
    refine lv_dup hx hb dX6_keepSavepoint_50 rfl ?_
    refine gCn_24_4 C0 hR av2 tbs_wsX50 mC3_2_66 hT dX6_keepSavepoint_51 ?_
    refine lv_iconst (v := 1) hx hb dX6_keepSavepoint_54 (by decide) ?_
    refine lv_iadd hx hb dX6_keepSavepoint_55 ?_
    refine pCn_24_4 C0 hR hS av2 tbs_wsX50 mC3_2_66 hT dX6_keepSavepoint_56 (fun S5 eS5 H locs hR hS => ?_)
    have h := h S5 eS5
    exact rtC_v C0 hr hlk hR hS h dX6_keepSavepoint_59
  · have h := h.2 c4
    refine lv_aload_n hx hb dX6_keepSavepoint_17 rfl (lv_at hl 0 rfl) ?_
    refine gC_13_0 C0 hR av0 tbs_wsX60 mC3_2_126 dX6_keepSavepoint_18 ?_
    have w6 : a0 < 3 := by omega
    refine lv_iload_n hx hb dX6_keepSavepoint_21 rfl (lv_at hl 3 rfl) ?_
    obtain ⟨j7, hj7, ej7, h⟩ := h
    refine lC_14 C0 hR w6 hj7 ej7 dX6_keepSavepoint_22 ?_
    have w8 : (S.2 14 a0 j7) < 72 := hR.2.1.1 _ _ w6 hj7
    refine lv_iload_n hx hb dX6_keepSavepoint_23 rfl (lv_at hl 1 rfl) ?_
    refine qC_Vi (As := [.int a1]) (rest := []) C0 (c_X1_isLockedBy l w8 h) (cwV 1 C0.2.2.2.2 (tbV mC3_4_232 ⟨mC3_4_233, mC3_4_234, mC3_1_7, mC3_4_235⟩) rfl rfl rfl (by decide +kernel) ⟨Nat.le_of_ble_eq_true rfl, Nat.le_of_ble_eq_true rfl⟩) (rcC_21 hR w8) hR hT hS rfl hl.1 rfl (Nat.le_of_ble_eq_true rfl) dX6_keepSavepoint_24 ⟨Nat.zero_le _, Nat.zero_le _⟩ (fun r9 S10 H locs h hR hS => ?_)
    refine lv_if_eq (tgt := 43) hx hb dX6_keepSavepoint_27 (by decide) (fun c11 => ?_) (fun c11 => ?_)
    · have h := h.1 c11
      exact Bw_X6_keepSavepoint_43 C0 hr hlk hT ih9 a0 a1 a2 a3 S10 _ _ _ av0 av2 h hR hS (lv_sub hl [0, 1, 2, 3] rfl)
    · have h := h.2 c11
      refine lv_aload_n hx hb dX6_keepSavepoint_30 rfl (lv_at hl 0 rfl) ?_
      refine gC_13_0 C0 hR av0 tbs_wsX60 mC3_2_126 dX6_keepSavepoint_31 ?_
      have w13 : a0 < 3 := by omega
      refine lv_iload_n hx hb dX6_keepSavepoint_34 rfl (lv_at hl 3 rfl) ?_
      refine lC_14 C0 hR w13 hj7 ej7 dX6_keepSavepoint_35 ?_
      have w14 : (S10.2 14 a0 j7) < 72 := hR.2.1.1 _ _ w13 hj7
      refine lv_aload_n hx hb dX6_keepSavepoint_36 rfl (lv_at hl 2 rfl) ?_
      refine gCn_24_4 C0 hR av2 tbs_wsX50 mC3_2_66 hT dX6_keepSavepoint_37 ?_
      refine qC_Vv (As := [.int (S10.1 24 a2 4)]) (rest := []) C0 (c_X1_saveAt l w14 h) (cwV 1 C0.2.2.2.2 (tbV mC3_4_236 ⟨mC3_4_237, mC3_4_238, mC3_1_7, mC3_4_239⟩) rfl rfl rfl (by decide +kernel) ⟨Nat.le_of_ble_eq_true rfl, Nat.le_of_ble_eq_true rfl⟩) (rcC_21 hR w14) hR hT hS rfl hl.1 rfl (Nat.le_of_ble_eq_true rfl) dX6_keepSavepoint_40 ⟨Nat.zero_le _, Nat.zero_le _⟩ (fun S16 H locs h hR hS => ?_)
      exact Bw_X6_keepSavepoint_43 C0 hr hlk hT ih9 a0 a1 a2 a3 S16 _ _ _ av0 av2 h hR hS (lv_sub hl [0, 1, 2, 3] rfl)
def B_X6_keepSavepoint_9 (n9 : Nat) (a0 : Nat) (a1 : Int32) (a2 : Nat) (a3 : Int32) (S : sSt) (k : sSt → Prop) : Prop := (Nat.rec (motive := fun _ => Nat → Int32 → Nat → Int32 → sSt → Prop) (fun _ _ _ _ _ => False) (fun _ r9 => fun a0 a1 a2 a3 S => Bb_X6_keepSavepoint_9 r9 a0 a1 a2 a3 S k) n9 : Nat → Int32 → Nat → Int32 → sSt → Prop) a0 a1 a2 a3 S
theorem B_X6_keepSavepoint_9_s (n9 : Nat) (a0 : Nat) (a1 : Int32) (a2 : Nat) (a3 : Int32) (S : sSt) (k : sSt → Prop) : B_X6_keepSavepoint_9 (n9 + 1) a0 a1 a2 a3 S k = Bb_X6_keepSavepoint_9 (fun a0 a1 a2 a3 S => B_X6_keepSavepoint_9 n9 a0 a1 a2 a3 S k) a0 a1 a2 a3 S k := rfl
set_option maxHeartbeats 4000000 in
set_option maxRecDepth 100000 in
theorem Bw_X6_keepSavepoint_9 {p : Program} {l : Launch} {e : Env} {s : State} {m : MethodId} {args : Array Value} {below : List Frame} {meth : Method} {c : Code} {D : va_G} {cy : Nat → ClassId} {b z : Nat} {tx : TX} (C0 : CallFix p m c cX6_keepSavepoint 4 s args TB RX6) (hr : meth.sig.returnType = none) (hlk : meth.locks = false) (hT : TxR tx s) {k : sSt → Prop} : ∀ (n9 : Nat), ∀ (a0 : Nat) (a1 : Int32) (a2 : Nat) (a3 : Int32) (S : sSt) (H : Heap) (locs : List Loc) (ls : Array Slot) (av0 : a0 < 3) (av2 : a2 < 12), B_X6_keepSavepoint_9 n9 a0 a1 a2 a3 S k → RelC D cy b z tx S s H → va_S (gA b 709 z) s.heap H locs → lv_has ls 4 [(0, .ref (b + adC 13 a0)), (1, .int a1), (2, .ref (b + adC 24 a2)), (3, .int a3)] → W p l e rm_X6_keepSavepoint s m args below meth c H locs 0 0 (MQ below (PvC D cy b z tx k) args s 0 0 (gA b 709 z)) (F0 m 9 ls []) := by
  intro n9
  induction n9 with
  | zero => intro a0 a1 a2 a3 S H locs ls av0 av2 h; exact h.elim
  | succ n9 ih =>
    intro a0 a1 a2 a3 S H locs ls av0 av2 h hR hS hl
    exact Bbw_X6_keepSavepoint_9 C0 hr hlk hT ih a0 a1 a2 a3 S H locs ls av0 av2 h hR hS hl
def F_X6_keepSavepoint (a0 : Nat) (a1 : Int32) (S : sSt) (k : sSt → Prop) : Prop := ix a1 4 (fun j2 => B_X6_keepSavepoint_9 fuel a0 a1 (4 * a0 + j2) 0 S k)
set_option maxHeartbeats 4000000 in
set_option maxRecDepth 100000 in
theorem c_X6_keepSavepoint (l : Launch) {D : va_G} {cy : Nat → ClassId} {b z : Nat} {tx : TX} {a0 : Nat} {a1 : Int32} {S : sSt} {k : sSt → Prop} (av0 : a0 < 3) (h : F_X6_keepSavepoint a0 a1 S k) : Met l yX6_keepSavepoint (Cond.code yX6_keepSavepoint cX6_keepSavepoint 4 none :: TB) rm_X6_keepSavepoint (va_Pc [.ref (b + adC 13 a0), .int a1] (fun U => RelC D cy b z tx S U U.heap ∧ TxR tx U)) (PvC D cy b z tx k) 0 0 (gA b 709 z) := by
  refine Met.ofW (cc := cX6_keepSavepoint) (maxL := 4) (ret := none) (by decide) rfl ?_
  intro p e s m args below meth c s₁ B hml hv
  obtain ⟨rfl, hR, hT⟩ := hv
  have C0 : CallFix p m c cX6_keepSavepoint 4 s _ TB RX6 := ⟨B.exec, B.bytes, hml, findClass_of_methodNamed B.named, fun w hw => atoms_spec B.pre w (List.mem_cons_of_mem _ hw)⟩
  have hr := B.returns
  have hlk := B.notSynchronized
  have hx := C0.1
  have hb := C0.2.1
  have hS : va_S (gA b 709 z) s.heap s.heap [] := va_S.rf
  have hl := lv_entry ([.ref (b + adC 13 a0), .int a1]) (n := 4) (Nat.le_of_ble_eq_true rfl)
  rw [lg_entry_eq]
  generalize (lg_sl ([.ref (b + adC 13 a0), .int a1]) ++ List.replicate (4 - (lg_sl ([.ref (b + adC 13 a0), .int a1])).length) Slot.unset).toArray = ls at hl ⊢
  have hl : lv_has ls 4 [(0, .ref (b + adC 13 a0)), (1, .int a1)] := hl
  show W p l e rm_X6_keepSavepoint s m _ below meth c s.heap [] 0 0 (MQ below (PvC D cy b z tx k) _ s 0 0 (gA b 709 z)) _
  unfold F_X6_keepSavepoint at h
  refine lv_aload_n hx hb dX6_keepSavepoint_0 rfl (lv_at hl 0 rfl) ?_
  refine gC_13_1 C0 hR av0 tbs_wsX60 mC3_2_129 dX6_keepSavepoint_1 ?_
  have w1 : a0 < 3 := by omega
  refine lv_iload_n hx hb dX6_keepSavepoint_4 rfl (lv_at hl 1 rfl) ?_
  obtain ⟨j2, hj2, ej2, h⟩ := h
  refine lC_15 C0 hR w1 hj2 ej2 dX6_keepSavepoint_5 ?_
  have w3 : (4 * a0 + j2) < 12 := by omega
  refine lv_astore_n (lv' := [(2, .ref (b + adC 24 (4 * a0 + j2))), (0, .ref (b + adC 13 a0)), (1, .int a1)]) hx hb dX6_keepSavepoint_6 rfl hl (by decide) rfl (fun ls hl => ?_)
  refine lv_iconst (v := 0) hx hb dX6_keepSavepoint_7 (by decide) ?_
  refine lv_istore_n (lv' := [(3, .int 0), (2, .ref (b + adC 24 (4 * a0 + j2))), (0, .ref (b + adC 13 a0)), (1, .int a1)]) hx hb dX6_keepSavepoint_8 rfl hl (by decide) rfl (fun ls hl => ?_)
  exact Bw_X6_keepSavepoint_9 C0 hr hlk hT fuel a0 a1 (4 * a0 + j2) 0 S _ _ _ av0 w3 h hR hS (lv_sub hl [2, 3, 1, 0] rfl)

def rm_X11_save : Room := { frames := 7, cells := 2, slots := 12, locals := 110 }
def B_X11_save_36 (a1 : Int32) (a2 : Nat) (t1 : Int32) (S : sSt) (k : Int32 → sSt → Prop) (kx : String → sSt → Prop) : Prop := F_X11_settle t1 S (fun S9 => F_X6_keepSavepoint (S9.2 0 0 4) a1 S9 (fun S12 => k ((S12.1 24 a2 4) - 1) S12)) kx
set_option maxHeartbeats 4000000 in
set_option maxRecDepth 100000 in
theorem Bw_X11_save_36 {p : Program} {l : Launch} {e : Env} {s : State} {m : MethodId} {args : Array Value} {below : List Frame} {meth : Method} {c : Code} {D : va_G} {cy : Nat → ClassId} {b z : Nat} {tx : TX} (C0 : CallFix p m c cX11_save 3 s args TB RX11) (hr : meth.sig.returnType = (some .int)) (hlk : meth.locks = false) (hT : TxR tx s) (hl0 : l.stackTraces = false) (hX0 : TxP tx b z s s.heap) (hexc : ∀ x ∈ c.exceptionTable.toList, False) {k : Int32 → sSt → Prop} {kx : String → sSt → Prop} : ∀ (a1 : Int32) (a2 : Nat) (t1 : Int32) (S : sSt) (H : Heap) (locs : List Loc) (ls : Array Slot) (av2 : a2 < 12), B_X11_save_36 a1 a2 t1 S k kx → RelC D cy b z tx S s H → va_S (gA b 709 z) s.heap H locs → lv_has ls 3 [(0, .ref (b + adC 0 0)), (1, .int a1), (2, .ref (b + adC 24 a2))] → W p l e rm_X11_save s m args below meth c H locs 1 6 (vx_MQ below (PiC D cy b z tx k) (XeC D cy b z tx kx) args s 2 12 (gA b 709 z)) (F0 m 36 ls [.int t1, .ref (b + adC 0 0)]) := by
  intro a1 a2 t1 S H locs ls av2 h hR hS hl
  have hx := C0.1
  have hb := C0.2.1
  unfold B_X11_save_36 at h
  refine qx_Vv (As := [.int t1]) (rest := []) C0 hlk hexc (c_X11_settle l hl0 h) (cwV 1 C0.2.2.2.2 (tbV mC3_4_202 ⟨mC3_4_204, mpC3_1_8, mC3_1_1, mC3_4_205⟩) rfl rfl rfl (by decide +kernel) ⟨Nat.le_of_ble_eq_true rfl, Nat.le_of_ble_eq_true rfl⟩) (rcC_0 hR Nat.zero_lt_one) hR hT hS rfl hl.1 rfl (Nat.le_of_ble_eq_true rfl) dX11_save_36 ⟨Nat.le_of_ble_eq_true rfl, Nat.le_of_ble_eq_true rfl⟩ ⟨Nat.le_of_ble_eq_true rfl, Nat.le_of_ble_eq_true rfl⟩ (fun S9 H locs h hR hS => ?_)
  refine lv_aload_n hx hb dX11_save_39 rfl (lv_at hl 0 rfl) ?_
  refine gC_0_4 C0 hR Nat.zero_lt_one tbs_wsX110 mC3_2_213 dX11_save_40 ?_
  have w10 : (S9.2 0 0 4) < 3 := hR.2.1.2.1
  refine lv_iload_n hx hb dX11_save_43 rfl (lv_at hl 1 rfl) ?_
  refine qC_Vv (As := [.int a1]) (rest := []) C0 (c_X6_keepSavepoint l w10 h) (cwV 1 C0.2.2.2.2 (tbV mC3_4_228 ⟨mC3_4_229, mC3_4_230, mC3_1_5, mC3_4_231⟩) rfl rfl rfl (by decide +kernel) ⟨Nat.le_of_ble_eq_true rfl, Nat.le_of_ble_eq_true rfl⟩) (rcC_13 hR w10) hR hT hS rfl hl.1 rfl (Nat.le_of_ble_eq_true rfl) dX11_save_44 ⟨Nat.le_of_ble_eq_true rfl, Nat.le_of_ble_eq_true rfl⟩ (fun S12 H locs h hR hS => ?_)
  refine lv_aload_n hx hb dX11_save_47 rfl (lv_at hl 2 rfl) ?_
  refine gCn_24_4 C0 hR av2 tbs_wsX50 mC3_2_67 hT dX11_save_48 ?_
  refine lv_iconst (v := 1) hx hb dX11_save_51 (by decide) ?_
  refine lv_isub hx hb dX11_save_52 ?_
  refine vx_ret (W.widen (k := 2) (n := 12) (Nat.le_of_ble_eq_true rfl) (Nat.le_of_ble_eq_true rfl) ?_); exact rtC_i C0 hr hlk hR hS h dX11_save_53
def B_X11_save_35 (a1 : Int32) (a2 : Nat) (S : sSt) (k : Int32 → sSt → Prop) (kx : String → sSt → Prop) : Prop := B_X11_save_36 a1 a2 1 S k kx
set_option maxHeartbeats 4000000 in
set_option maxRecDepth 100000 in
theorem Bw_X11_save_35 {p : Program} {l : Launch} {e : Env} {s : State} {m : MethodId} {args : Array Value} {below : List Frame} {meth : Method} {c : Code} {D : va_G} {cy : Nat → ClassId} {b z : Nat} {tx : TX} (C0 : CallFix p m c cX11_save 3 s args TB RX11) (hr : meth.sig.returnType = (some .int)) (hlk : meth.locks = false) (hT : TxR tx s) (hl0 : l.stackTraces = false) (hX0 : TxP tx b z s s.heap) (hexc : ∀ x ∈ c.exceptionTable.toList, False) {k : Int32 → sSt → Prop} {kx : String → sSt → Prop} : ∀ (a1 : Int32) (a2 : Nat) (S : sSt) (H : Heap) (locs : List Loc) (ls : Array Slot) (av2 : a2 < 12), B_X11_save_35 a1 a2 S k kx → RelC D cy b z tx S s H → va_S (gA b 709 z) s.heap H locs → lv_has ls 3 [(0, .ref (b + adC 0 0)), (1, .int a1), (2, .ref (b + adC 24 a2))] → W p l e rm_X11_save s m args below meth c H locs 1 6 (vx_MQ below (PiC D cy b z tx k) (XeC D cy b z tx kx) args s 2 12 (gA b 709 z)) (F0 m 35 ls [.ref (b + adC 0 0)]) := by
  intro a1 a2 S H locs ls av2 h hR hS hl
  have hx := C0.1
  have hb := C0.2.1
  unfold B_X11_save_35 at h
  refine lv_iconst (v := 1) hx hb dX11_save_35 (by decide) ?_
  refine W.widen (k := 1) (n := 6) (Nat.le_of_ble_eq_true rfl) (Nat.le_of_ble_eq_true rfl) ?_
  exact Bw_X11_save_36 C0 hr hlk hT hl0 hX0 hexc a1 a2 1 S _ _ _ av2 h hR hS (lv_sub hl [0, 1, 2] rfl)
def F_X11_save (a1 : Int32) (S : sSt) (k : Int32 → sSt → Prop) (kx : String → sSt → Prop) : Prop := F_X11_needSession a1 S (fun S2 => ix a1 4 (fun j5 => (((S2.1 24 (4 * (S2.2 0 0 4) + j5) 3) = 0 → B_X11_save_35 a1 (4 * (S2.2 0 0 4) + j5) S2 k kx) ∧ (¬ (S2.1 24 (4 * (S2.2 0 0 4) + j5) 3) = 0 → ((4 ≤ (S2.1 24 (4 * (S2.2 0 0 4) + j5) 4) → B_X11_save_35 a1 (4 * (S2.2 0 0 4) + j5) S2 k kx) ∧ (¬ 4 ≤ (S2.1 24 (4 * (S2.2 0 0 4) + j5) 4) → B_X11_save_36 a1 (4 * (S2.2 0 0 4) + j5) 0 S2 k kx)))))) kx
set_option maxHeartbeats 4000000 in
set_option maxRecDepth 100000 in
theorem c_X11_save (l : Launch) (hl0 : l.stackTraces = false) {D : va_G} {cy : Nat → ClassId} {b z : Nat} {tx : TX} {a1 : Int32} {S : sSt} {k : Int32 → sSt → Prop} {kx : String → sSt → Prop} (h : F_X11_save a1 S k kx) : vx_Met l yX11_save (Cond.code yX11_save cX11_save 3 (some .int) :: TB) rm_X11_save (va_Pc [.ref (b + adC 0 0), .int a1] (fun U => RelC D cy b z tx S U U.heap ∧ TxR tx U)) (PiC D cy b z tx k) (XeC D cy b z tx kx) 2 12 (gA b 709 z) := by
  refine vx_ofW (cc := cX11_save) (maxL := 3) (ret := (some .int)) (by decide) rfl ?_
  intro p e s m args below meth c s₁ B hml hexc hv
  obtain ⟨rfl, hR, hT⟩ := hv
  have hX0 := hR.2.2
  have C0 : CallFix p m c cX11_save 3 s _ TB RX11 := ⟨B.exec, B.bytes, hml, findClass_of_methodNamed B.named, fun w hw => atoms_spec B.pre w (List.mem_cons_of_mem _ hw)⟩
  have hr := B.returns
  have hlk := B.notSynchronized
  have hx := C0.1
  have hb := C0.2.1
  have hS : va_S (gA b 709 z) s.heap s.heap [] := va_S.rf
  have hl := lv_entry ([.ref (b + adC 0 0), .int a1]) (n := 3) (Nat.le_of_ble_eq_true rfl)
  rw [lg_entry_eq]
  generalize (lg_sl ([.ref (b + adC 0 0), .int a1]) ++ List.replicate (3 - (lg_sl ([.ref (b + adC 0 0), .int a1])).length) Slot.unset).toArray = ls at hl ⊢
  have hl : lv_has ls 3 [(0, .ref (b + adC 0 0)), (1, .int a1)] := hl
  show W p l e rm_X11_save s m _ below meth c s.heap [] 0 0 (vx_MQ below (PiC D cy b z tx k) (XeC D cy b z tx kx) _ s 2 12 (gA b 709 z)) _
  unfold F_X11_save at h
  refine lv_aload_n hx hb dX11_save_0 rfl (lv_at hl 0 rfl) ?_
  refine lv_iload_n hx hb dX11_save_1 rfl (lv_at hl 1 rfl) ?_
  refine qx_Vv (As := [.int a1]) (rest := []) C0 hlk hexc (c_X11_needSession l hl0 h) (cwV 1 C0.2.2.2.2 (tbV mC3_4_133 ⟨mC3_4_135, mpC3_1_5, mC3_1_1, mC3_4_136⟩) rfl rfl rfl (by decide +kernel) ⟨Nat.le_of_ble_eq_true rfl, Nat.le_of_ble_eq_true rfl⟩) (rcC_0 hR Nat.zero_lt_one) hR hT hS rfl hl.1 rfl (Nat.le_of_ble_eq_true rfl) dX11_save_2 ⟨Nat.le_of_ble_eq_true rfl, Nat.le_of_ble_eq_true rfl⟩ ⟨Nat.le_of_ble_eq_true rfl, Nat.le_of_ble_eq_true rfl⟩ (fun S2 H locs h hR hS => ?_)
  refine lv_aload_n hx hb dX11_save_5 rfl (lv_at hl 0 rfl) ?_
  refine gC_0_4 C0 hR Nat.zero_lt_one tbs_wsX110 mC3_2_213 dX11_save_6 ?_
  have w3 : (S2.2 0 0 4) < 3 := hR.2.1.2.1
  refine gCn_13_1 C0 hR w3 tbs_wsX60 mC3_2_131 hT dX11_save_9 ?_
  have w4 : (S2.2 0 0 4) < 3 := by omega
  refine lv_iload_n hx hb dX11_save_12 rfl (lv_at hl 1 rfl) ?_
  obtain ⟨j5, hj5, ej5, h⟩ := h
  refine lC_15 C0 hR w4 hj5 ej5 dX11_save_13 ?_
  have w6 : (4 * (S2.2 0 0 4) + j5) < 12 := by omega
  refine lv_astore_n (lv' := [(2, .ref (b + adC 24 (4 * (S2.2 0 0 4) + j5))), (0, .ref (b + adC 0 0)), (1, .int a1)]) hx hb dX11_save_14 rfl hl (by decide) rfl (fun ls hl => ?_)
  refine lv_aload_n hx hb dX11_save_15 rfl (lv_at hl 1 rfl) ?_
  refine lv_aload_n hx hb dX11_save_16 rfl (lv_at hl 0 rfl) ?_
  refine gCn_24_3 C0 hR w6 tbs_wsX50 mC3_2_63 hT dX11_save_17 ?_
  refine lv_if_eq (tgt := 35) hx hb dX11_save_20 (by decide) (fun c7 => ?_) (fun c7 => ?_)
  · have h := h.1 c7
    refine W.widen (k := 1) (n := 6) (Nat.le_of_ble_eq_true rfl) (Nat.le_of_ble_eq_true rfl) ?_
    exact Bw_X11_save_35 C0 hr hlk hT hl0 hX0 hexc a1 (4 * (S2.2 0 0 4) + j5) S2 _ _ _ w6 h hR hS (lv_sub hl [1, 2, 0] rfl)
  · have h := h.2 c7
    refine lv_aload_n hx hb dX11_save_23 rfl (lv_at hl 0 rfl) ?_
    refine gCn_24_4 C0 hR w6 tbs_wsX50 mC3_2_67 hT dX11_save_24 ?_
    refine lv_iconst (v := 4) hx hb dX11_save_27 (by decide) ?_
    refine lv_icmp_ge (tgt := 35) hx hb dX11_save_28 (by decide) (fun c13 => ?_) (fun c13 => ?_)
    · have h := h.1 c13
      refine W.widen (k := 1) (n := 6) (Nat.le_of_ble_eq_true rfl) (Nat.le_of_ble_eq_true rfl) ?_
      exact Bw_X11_save_35 C0 hr hlk hT hl0 hX0 hexc a1 (4 * (S2.2 0 0 4) + j5) S2 _ _ _ w6 h hR hS (lv_sub hl [1, 2, 0] rfl)
    · have h := h.2 c13
      refine lv_iconst (v := 0) hx hb dX11_save_31 (by decide) ?_
      refine lv_goto (tgt := 36) hx hb dX11_save_32 (by decide) ?_
      refine W.widen (k := 1) (n := 6) (Nat.le_of_ble_eq_true rfl) (Nat.le_of_ble_eq_true rfl) ?_
      exact Bw_X11_save_36 C0 hr hlk hT hl0 hX0 hexc a1 (4 * (S2.2 0 0 4) + j5) 0 S2 _ _ _ w6 h hR hS (lv_sub hl [1, 2, 0] rfl)

def rm_X11_settleOpen : Room := { frames := 7, cells := 1, slots := 6, locals := 110 }
def B_X11_settleOpen_21 (t1 : Int32) (S : sSt) (k : sSt → Prop) (kx : String → sSt → Prop) : Prop := F_X11_settle t1 S (fun S7 => k S7) kx
set_option maxHeartbeats 4000000 in
set_option maxRecDepth 100000 in
theorem Bw_X11_settleOpen_21 {p : Program} {l : Launch} {e : Env} {s : State} {m : MethodId} {args : Array Value} {below : List Frame} {meth : Method} {c : Code} {D : va_G} {cy : Nat → ClassId} {b z : Nat} {tx : TX} (C0 : CallFix p m c cX11_settleOpen 2 s args TB RX11) (hr : meth.sig.returnType = none) (hlk : meth.locks = false) (hT : TxR tx s) (hl0 : l.stackTraces = false) (hX0 : TxP tx b z s s.heap) (hexc : ∀ x ∈ c.exceptionTable.toList, False) {k : sSt → Prop} {kx : String → sSt → Prop} : ∀ (t1 : Int32) (S : sSt) (H : Heap) (locs : List Loc) (ls : Array Slot) , B_X11_settleOpen_21 t1 S k kx → RelC D cy b z tx S s H → va_S (gA b 709 z) s.heap H locs → lv_has ls 2 [] → W p l e rm_X11_settleOpen s m args below meth c H locs 0 0 (vx_MQ below (PvC D cy b z tx k) (XeC D cy b z tx kx) args s 1 6 (gA b 709 z)) (F0 m 21 ls [.int t1, .ref (b + adC 0 0)]) := by
  intro t1 S H locs ls h hR hS hl
  have hx := C0.1
  have hb := C0.2.1
  unfold B_X11_settleOpen_21 at h
  refine qx_Vv (As := [.int t1]) (rest := []) C0 hlk hexc (c_X11_settle l hl0 h) (cwV 1 C0.2.2.2.2 (tbV mC3_4_202 ⟨mC3_4_204, mpC3_1_8, mC3_1_1, mC3_4_205⟩) rfl rfl rfl (by decide +kernel) ⟨Nat.le_of_ble_eq_true rfl, Nat.le_of_ble_eq_true rfl⟩) (rcC_0 hR Nat.zero_lt_one) hR hT hS rfl hl.1 rfl (Nat.le_of_ble_eq_true rfl) dX11_settleOpen_21 ⟨Nat.le_of_ble_eq_true rfl, Nat.le_of_ble_eq_true rfl⟩ ⟨Nat.le_of_ble_eq_true rfl, Nat.le_of_ble_eq_true rfl⟩ (fun S7 H locs h hR hS => ?_)
  refine vx_ret (W.widen (k := 1) (n := 6) (Nat.le_of_ble_eq_true rfl) (Nat.le_of_ble_eq_true rfl) ?_); exact rtC_v C0 hr hlk hR hS h dX11_settleOpen_24
def F_X11_settleOpen (a1 : Int32) (S : sSt) (k : sSt → Prop) (kx : String → sSt → Prop) : Prop := ix a1 4 (fun j3 => (((S.1 24 (4 * (S.2 0 0 4) + j3) 3) = 0 → B_X11_settleOpen_21 1 S k kx) ∧ (¬ (S.1 24 (4 * (S.2 0 0 4) + j3) 3) = 0 → B_X11_settleOpen_21 0 S k kx)))
set_option maxHeartbeats 4000000 in
set_option maxRecDepth 100000 in
theorem c_X11_settleOpen (l : Launch) (hl0 : l.stackTraces = false) {D : va_G} {cy : Nat → ClassId} {b z : Nat} {tx : TX} {a1 : Int32} {S : sSt} {k : sSt → Prop} {kx : String → sSt → Prop} (h : F_X11_settleOpen a1 S k kx) : vx_Met l yX11_settleOpen (Cond.code yX11_settleOpen cX11_settleOpen 2 none :: TB) rm_X11_settleOpen (va_Pc [.ref (b + adC 0 0), .int a1] (fun U => RelC D cy b z tx S U U.heap ∧ TxR tx U)) (PvC D cy b z tx k) (XeC D cy b z tx kx) 1 6 (gA b 709 z) := by
  refine vx_ofW (cc := cX11_settleOpen) (maxL := 2) (ret := none) (by decide) rfl ?_
  intro p e s m args below meth c s₁ B hml hexc hv
  obtain ⟨rfl, hR, hT⟩ := hv
  have hX0 := hR.2.2
  have C0 : CallFix p m c cX11_settleOpen 2 s _ TB RX11 := ⟨B.exec, B.bytes, hml, findClass_of_methodNamed B.named, fun w hw => atoms_spec B.pre w (List.mem_cons_of_mem _ hw)⟩
  have hr := B.returns
  have hlk := B.notSynchronized
  have hx := C0.1
  have hb := C0.2.1
  have hS : va_S (gA b 709 z) s.heap s.heap [] := va_S.rf
  have hl := lv_entry ([.ref (b + adC 0 0), .int a1]) (n := 2) (Nat.le_of_ble_eq_true rfl)
  rw [lg_entry_eq]
  generalize (lg_sl ([.ref (b + adC 0 0), .int a1]) ++ List.replicate (2 - (lg_sl ([.ref (b + adC 0 0), .int a1])).length) Slot.unset).toArray = ls at hl ⊢
  have hl : lv_has ls 2 [(0, .ref (b + adC 0 0)), (1, .int a1)] := hl
  show W p l e rm_X11_settleOpen s m _ below meth c s.heap [] 0 0 (vx_MQ below (PvC D cy b z tx k) (XeC D cy b z tx kx) _ s 1 6 (gA b 709 z)) _
  unfold F_X11_settleOpen at h
  refine lv_aload_n hx hb dX11_settleOpen_0 rfl (lv_at hl 0 rfl) ?_
  refine lv_aload_n hx hb dX11_settleOpen_1 rfl (lv_at hl 0 rfl) ?_
  refine gC_0_4 C0 hR Nat.zero_lt_one tbs_wsX110 mC3_2_213 dX11_settleOpen_2 ?_
  have w1 : (S.2 0 0 4) < 3 := hR.2.1.2.1
  refine gCn_13_1 C0 hR w1 tbs_wsX60 mC3_2_131 hT dX11_settleOpen_5 ?_
  have w2 : (S.2 0 0 4) < 3 := by omega
  refine lv_iload_n hx hb dX11_settleOpen_8 rfl (lv_at hl 1 rfl) ?_
  obtain ⟨j3, hj3, ej3, h⟩ := h
  refine lC_15 C0 hR w2 hj3 ej3 dX11_settleOpen_9 ?_
  have w4 : (4 * (S.2 0 0 4) + j3) < 12 := by omega
  refine gCn_24_3 C0 hR w4 tbs_wsX50 mC3_2_63 hT dX11_settleOpen_10 ?_
  refine lv_if_eq (tgt := 20) hx hb dX11_settleOpen_13 (by decide) (fun c5 => ?_) (fun c5 => ?_)
  · have h := h.1 c5
    refine lv_iconst (v := 1) hx hb dX11_settleOpen_20 (by decide) ?_
    refine W.widen (k := 0) (n := 0) (Nat.le_of_ble_eq_true rfl) (Nat.le_of_ble_eq_true rfl) ?_
    exact Bw_X11_settleOpen_21 C0 hr hlk hT hl0 hX0 hexc 1 S _ _ _ h hR hS (lv_sub hl [] rfl)
  · have h := h.2 c5
    refine lv_iconst (v := 0) hx hb dX11_settleOpen_16 (by decide) ?_
    refine lv_goto (tgt := 21) hx hb dX11_settleOpen_17 (by decide) ?_
    refine W.widen (k := 0) (n := 0) (Nat.le_of_ble_eq_true rfl) (Nat.le_of_ble_eq_true rfl) ?_
    exact Bw_X11_settleOpen_21 C0 hr hlk hT hl0 hX0 hexc 0 S _ _ _ h hR hS (lv_sub hl [] rfl)

def rm_X1_returnTo : Room := { frames := 1, cells := 0, slots := 0, locals := 21 }
def F_X1_returnTo (a0 : Nat) (a1 : Int32) (S : sSt) (k : sSt → Prop) : Prop := ((a1 < 0 → k S) ∧ (¬ a1 < 0 → ((4 ≤ a1 → k S) ∧ (¬ 4 ≤ a1 → ix a1 4 (fun j6 => F_X9_copyFrom (6 * a0 + 1) (6 * a0 + 2 + j6) S (fun S9 => k S9))))))
set_option maxHeartbeats 4000000 in
set_option maxRecDepth 100000 in
theorem c_X1_returnTo (l : Launch) {D : va_G} {cy : Nat → ClassId} {b z : Nat} {tx : TX} {a0 : Nat} {a1 : Int32} {S : sSt} {k : sSt → Prop} (av0 : a0 < 72) (h : F_X1_returnTo a0 a1 S k) : Met l yX1_returnTo (Cond.code yX1_returnTo cX1_returnTo 2 none :: TB) rm_X1_returnTo (va_Pc [.ref (b + adC 21 a0), .int a1] (fun U => RelC D cy b z tx S U U.heap ∧ TxR tx U)) (PvC D cy b z tx k) 0 0 (gA b 709 z) := by
  refine Met.ofW (cc := cX1_returnTo) (maxL := 2) (ret := none) (by decide) rfl ?_
  intro p e s m args below meth c s₁ B hml hv
  obtain ⟨rfl, hR, hT⟩ := hv
  have C0 : CallFix p m c cX1_returnTo 2 s _ TB RX1 := ⟨B.exec, B.bytes, hml, findClass_of_methodNamed B.named, fun w hw => atoms_spec B.pre w (List.mem_cons_of_mem _ hw)⟩
  have hr := B.returns
  have hlk := B.notSynchronized
  have hx := C0.1
  have hb := C0.2.1
  have hS : va_S (gA b 709 z) s.heap s.heap [] := va_S.rf
  have hl := lv_entry ([.ref (b + adC 21 a0), .int a1]) (n := 2) (Nat.le_of_ble_eq_true rfl)
  rw [lg_entry_eq]
  generalize (lg_sl ([.ref (b + adC 21 a0), .int a1]) ++ List.replicate (2 - (lg_sl ([.ref (b + adC 21 a0), .int a1])).length) Slot.unset).toArray = ls at hl ⊢
  have hl : lv_has ls 2 [(0, .ref (b + adC 21 a0)), (1, .int a1)] := hl
  show W p l e rm_X1_returnTo s m _ below meth c s.heap [] 0 0 (MQ below (PvC D cy b z tx k) _ s 0 0 (gA b 709 z)) _
  unfold F_X1_returnTo at h
  refine lv_iload_n hx hb dX1_returnTo_0 rfl (lv_at hl 1 rfl) ?_
  refine lv_if_lt (tgt := 26) hx hb dX1_returnTo_1 (by decide) (fun c1 => ?_) (fun c1 => ?_)
  · have h := h.1 c1
    exact rtC_v C0 hr hlk hR hS h dX1_returnTo_26
  · have h := h.2 c1
    refine lv_iload_n hx hb dX1_returnTo_4 rfl (lv_at hl 1 rfl) ?_
    refine lv_aload_n hx hb dX1_returnTo_5 rfl (lv_at hl 0 rfl) ?_
    refine gC_21_2 C0 hR av0 tbs_wsX10 mC3_1_218 dX1_returnTo_6 ?_
    have w2 : a0 < 72 := by omega
    refine nC_23 C0 hR w2 dX1_returnTo_9 ?_
    refine lv_icmp_ge (tgt := 26) hx hb dX1_returnTo_10 (by decide) (fun c3 => ?_) (fun c3 => ?_)
    · have h := h.1 c3
      exact rtC_v C0 hr hlk hR hS h dX1_returnTo_26
    · have h := h.2 c3
      refine lv_aload_n hx hb dX1_returnTo_13 rfl (lv_at hl 0 rfl) ?_
      refine gC_21_1 C0 hR av0 tbs_wsX10 mC3_1_215 dX1_returnTo_14 ?_
      have w4 : (6 * a0 + 1) < 432 := by omega
      refine lv_aload_n hx hb dX1_returnTo_17 rfl (lv_at hl 0 rfl) ?_
      refine gC_21_2 C0 hR av0 tbs_wsX10 mC3_1_218 dX1_returnTo_18 ?_
      have w5 : a0 < 72 := by omega
      refine lv_iload_n hx hb dX1_returnTo_21 rfl (lv_at hl 1 rfl) ?_
      obtain ⟨j6, hj6, ej6, h⟩ := h
      refine lC_23 C0 hR w5 hj6 ej6 dX1_returnTo_22 ?_
      have w7 : (6 * a0 + 2 + j6) < 432 := by omega
      refine qC_Vv (As := [.ref (b + adC 22 (6 * a0 + 2 + j6))]) (rest := []) C0 (c_X9_copyFrom l w4 w7 h) (cwV 1 C0.2.2.2.2 (tbV mC3_3_61 ⟨mC3_3_62, mC3_3_63, mC3_1_8, mC3_3_64⟩) rfl rfl rfl (by decide +kernel) ⟨Nat.le_of_ble_eq_true rfl, Nat.le_of_ble_eq_true rfl⟩) (rcC_22 hR w4) hR hT hS rfl hl.1 rfl (Nat.le_of_ble_eq_true rfl) dX1_returnTo_23 ⟨Nat.zero_le _, Nat.zero_le _⟩ (fun S9 H locs h hR hS => ?_)
      exact rtC_v C0 hr hlk hR hS h dX1_returnTo_26

def rm_X6_removeAt : Room := { frames := 0, cells := 0, slots := 0, locals := 0 }
def Bb_X6_removeAt_22 (kk22 : Nat → Nat → Int32 → sSt → Prop) (a0 : Nat) (a2 : Nat) (a3 : Int32) (S : sSt) (k : sSt → Prop) : Prop := (((S.1 13 a0 6) ≤ (a3 + 1) → ∀ S7, S7 = uI S 13 a0 6 ((S.1 13 a0 6) - 1) → ix (S7.1 13 a0 6) 24 (fun j9 => ∀ S10, S10 = uR S7 14 a0 j9 a2 → k S10)) ∧ (¬ (S.1 13 a0 6) ≤ (a3 + 1) → ix (a3 + 1) 24 (fun j13 => ix a3 24 (fun j15 => ∀ S16, S16 = uR S 14 a0 j15 (S.2 14 a0 j13) → ∀ x17 : Int32, x17 = a3 + 1 → kk22 a0 a2 x17 S16))))
set_option maxHeartbeats 4000000 in
set_option maxRecDepth 100000 in
theorem Bbw_X6_removeAt_22 {p : Program} {l : Launch} {e : Env} {s : State} {m : MethodId} {args : Array Value} {below : List Frame} {meth : Method} {c : Code} {D : va_G} {cy : Nat → ClassId} {b z : Nat} {tx : TX} (C0 : CallFix p m c cX6_removeAt 4 s args TB RX6) (hr : meth.sig.returnType = none) (hlk : meth.locks = false) (hT : TxR tx s) {k : sSt → Prop} {kk22 : Nat → Nat → Int32 → sSt → Prop} (ih22 : ∀ (a0 : Nat) (a2 : Nat) (a3 : Int32) (S : sSt) (H : Heap) (locs : List Loc) (ls : Array Slot) (av0 : a0 < 3) (av2 : a2 < 72), kk22 a0 a2 a3 S → RelC D cy b z tx S s H → va_S (gA b 709 z) s.heap H locs → lv_has ls 4 [(0, .ref (b + adC 13 a0)), (2, .ref (b + adC 21 a2)), (3, .int a3)] → W p l e rm_X6_removeAt s m args below meth c H locs 0 0 (MQ below (PvC D cy b z tx k) args s 0 0 (gA b 709 z)) (F0 m 22 ls [])) : ∀ (a0 : Nat) (a2 : Nat) (a3 : Int32) (S : sSt) (H : Heap) (locs : List Loc) (ls : Array Slot) (av0 : a0 < 3) (av2 : a2 < 72), Bb_X6_removeAt_22 kk22 a0 a2 a3 S k → RelC D cy b z tx S s H → va_S (gA b 709 z) s.heap H locs → lv_has ls 4 [(0, .ref (b + adC 13 a0)), (2, .ref (b + adC 21 a2)), (3, .int a3)] → W p l e rm_X6_removeAt s m args below meth c H locs 0 0 (MQ below (PvC D cy b z tx k) args s 0 0 (gA b 709 z)) (F0 m 22 ls []) := by
  intro a0 a2 a3 S H locs ls av0 av2 h hR hS hl
  have hx := C0.1
  have hb := C0.2.1
  unfold Bb_X6_removeAt_22 at h
  refine lv_iload_n hx hb dX6_removeAt_22 rfl (lv_at hl 2 rfl) ?_
  refine lv_iconst (v := 1) hx hb dX6_removeAt_23 (by decide) ?_
  refine lv_iadd hx hb dX6_removeAt_24 ?_
  refine lv_aload_n hx hb dX6_removeAt_25 rfl (lv_at hl 0 rfl) ?_
  refine gC_13_6 C0 hR av0 tbs_wsX60 mC3_2_146 dX6_removeAt_26 ?_
  refine lv_icmp_ge (tgt := 52) hx hb dX6_removeAt_29 (by decide) (fun c6 => ?_) (fun c6 => ?_)
  · have h := h.1 c6
    refine lv_aload_n hx hb dX6_removeAt_52 rfl (lv_at hl 0 rfl) ?_
    refine lv_dup hx hb dX6_removeAt_53 rfl ?_
    refine gC_13_6 C0 hR av0 tbs_wsX60 mC3_2_146 dX6_removeAt_54 ?_
    refine lv_iconst (v := 1) hx hb dX6_removeAt_57 (by decide) ?_
    refine lv_isub hx hb dX6_removeAt_58 ?_
    refine pC_13_6 C0 hR hS av0 tbs_wsX60 mC3_2_146 dX6_removeAt_59 (fun S7 eS7 H locs hR hS => ?_)
    have h := h S7 eS7
    refine lv_aload_n hx hb dX6_removeAt_62 rfl (lv_at hl 0 rfl) ?_
    refine gC_13_0 C0 hR av0 tbs_wsX60 mC3_2_126 dX6_removeAt_63 ?_
    have w8 : a0 < 3 := by omega
    refine lv_aload_n hx hb dX6_removeAt_66 rfl (lv_at hl 0 rfl) ?_
    refine gC_13_6 C0 hR av0 tbs_wsX60 mC3_2_146 dX6_removeAt_67 ?_
    refine lv_aload_n hx hb dX6_removeAt_70 rfl (lv_at hl 1 rfl) ?_
    obtain ⟨j9, hj9, ej9, h⟩ := h
    refine sC_14 C0 hR hS w8 hj9 av2 ej9 dX6_removeAt_71 (fun S10 eS10 H locs hR hS => ?_)
    have h := h S10 eS10
    exact rtC_v C0 hr hlk hR hS h dX6_removeAt_72
  · have h := h.2 c6
    refine lv_aload_n hx hb dX6_removeAt_32 rfl (lv_at hl 0 rfl) ?_
    refine gC_13_0 C0 hR av0 tbs_wsX60 mC3_2_126 dX6_removeAt_33 ?_
    have w11 : a0 < 3 := by omega
    refine lv_iload_n hx hb dX6_removeAt_36 rfl (lv_at hl 2 rfl) ?_
    refine lv_aload_n hx hb dX6_removeAt_37 rfl (lv_at hl 0 rfl) ?_
    refine gC_13_0 C0 hR av0 tbs_wsX60 mC3_2_126 dX6_removeAt_38 ?_
    have w12 : a0 < 3 := by omega
    refine lv_iload_n hx hb dX6_removeAt_41 rfl (lv_at hl 2 rfl) ?_
    refine lv_iconst (v := 1) hx hb dX6_removeAt_42 (by decide) ?_
    refine lv_iadd hx hb dX6_removeAt_43 ?_
    obtain ⟨j13, hj13, ej13, h⟩ := h
    refine lC_14 C0 hR w12 hj13 ej13 dX6_removeAt_44 ?_
    have w14 : (S.2 14 a0 j13) < 72 := hR.2.1.1 _ _ w12 hj13
    obtain ⟨j15, hj15, ej15, h⟩ := h
    refine sC_14 C0 hR hS w11 hj15 w14 ej15 dX6_removeAt_45 (fun S16 eS16 H locs hR hS => ?_)
    have h := h S16 eS16
    obtain ⟨x17, ex17⟩ : ∃ x17 : Int32, x17 = a3 + 1 := ⟨_, rfl⟩
    have h := h x17 ex17
    refine w_iinc (v0 := 1) (lv' := [(3, .int x17), (0, .ref (b + adC 13 a0)), (2, .ref (b + adC 21 a2))]) C0 dX6_removeAt_46 hl (k := 2) rfl (by decide) (by decide) x17 ex17 rfl (fun ls hl => ?_)
    refine lv_goto (tgt := 22) hx hb dX6_removeAt_49 (by decide) ?_
    exact ih22 a0 a2 x17 S16 _ _ _ av0 av2 h hR hS (lv_sub hl [1, 2, 0] rfl)
def B_X6_removeAt_22 (n9 : Nat) (a0 : Nat) (a2 : Nat) (a3 : Int32) (S : sSt) (k : sSt → Prop) : Prop := (Nat.rec (motive := fun _ => Nat → Nat → Int32 → sSt → Prop) (fun _ _ _ _ => False) (fun _ r9 => fun a0 a2 a3 S => Bb_X6_removeAt_22 r9 a0 a2 a3 S k) n9 : Nat → Nat → Int32 → sSt → Prop) a0 a2 a3 S
theorem B_X6_removeAt_22_s (n9 : Nat) (a0 : Nat) (a2 : Nat) (a3 : Int32) (S : sSt) (k : sSt → Prop) : B_X6_removeAt_22 (n9 + 1) a0 a2 a3 S k = Bb_X6_removeAt_22 (fun a0 a2 a3 S => B_X6_removeAt_22 n9 a0 a2 a3 S k) a0 a2 a3 S k := rfl
set_option maxHeartbeats 4000000 in
set_option maxRecDepth 100000 in
theorem Bw_X6_removeAt_22 {p : Program} {l : Launch} {e : Env} {s : State} {m : MethodId} {args : Array Value} {below : List Frame} {meth : Method} {c : Code} {D : va_G} {cy : Nat → ClassId} {b z : Nat} {tx : TX} (C0 : CallFix p m c cX6_removeAt 4 s args TB RX6) (hr : meth.sig.returnType = none) (hlk : meth.locks = false) (hT : TxR tx s) {k : sSt → Prop} : ∀ (n9 : Nat), ∀ (a0 : Nat) (a2 : Nat) (a3 : Int32) (S : sSt) (H : Heap) (locs : List Loc) (ls : Array Slot) (av0 : a0 < 3) (av2 : a2 < 72), B_X6_removeAt_22 n9 a0 a2 a3 S k → RelC D cy b z tx S s H → va_S (gA b 709 z) s.heap H locs → lv_has ls 4 [(0, .ref (b + adC 13 a0)), (2, .ref (b + adC 21 a2)), (3, .int a3)] → W p l e rm_X6_removeAt s m args below meth c H locs 0 0 (MQ below (PvC D cy b z tx k) args s 0 0 (gA b 709 z)) (F0 m 22 ls []) := by
  intro n9
  induction n9 with
  | zero => intro a0 a2 a3 S H locs ls av0 av2 h; exact h.elim
  | succ n9 ih =>
    intro a0 a2 a3 S H locs ls av0 av2 h hR hS hl
    exact Bbw_X6_removeAt_22 C0 hr hlk hT ih a0 a2 a3 S H locs ls av0 av2 h hR hS hl
def F_X6_removeAt (a0 : Nat) (a1 : Int32) (S : sSt) (k : sSt → Prop) : Prop := ((a1 < 0 → k S) ∧ (¬ a1 < 0 → ((a1 < (S.1 13 a0 6) → ix a1 24 (fun j4 => B_X6_removeAt_22 fuel a0 (S.2 14 a0 j4) a1 S k)) ∧ (¬ a1 < (S.1 13 a0 6) → k S))))
set_option maxHeartbeats 4000000 in
set_option maxRecDepth 100000 in
theorem c_X6_removeAt (l : Launch) {D : va_G} {cy : Nat → ClassId} {b z : Nat} {tx : TX} {a0 : Nat} {a1 : Int32} {S : sSt} {k : sSt → Prop} (av0 : a0 < 3) (h : F_X6_removeAt a0 a1 S k) : Met l yX6_removeAt (Cond.code yX6_removeAt cX6_removeAt 4 none :: TB) rm_X6_removeAt (va_Pc [.ref (b + adC 13 a0), .int a1] (fun U => RelC D cy b z tx S U U.heap ∧ TxR tx U)) (PvC D cy b z tx k) 0 0 (gA b 709 z) := by
  refine Met.ofW (cc := cX6_removeAt) (maxL := 4) (ret := none) (by decide) rfl ?_
  intro p e s m args below meth c s₁ B hml hv
  obtain ⟨rfl, hR, hT⟩ := hv
  have C0 : CallFix p m c cX6_removeAt 4 s _ TB RX6 := ⟨B.exec, B.bytes, hml, findClass_of_methodNamed B.named, fun w hw => atoms_spec B.pre w (List.mem_cons_of_mem _ hw)⟩
  have hr := B.returns
  have hlk := B.notSynchronized
  have hx := C0.1
  have hb := C0.2.1
  have hS : va_S (gA b 709 z) s.heap s.heap [] := va_S.rf
  have hl := lv_entry ([.ref (b + adC 13 a0), .int a1]) (n := 4) (Nat.le_of_ble_eq_true rfl)
  rw [lg_entry_eq]
  generalize (lg_sl ([.ref (b + adC 13 a0), .int a1]) ++ List.replicate (4 - (lg_sl ([.ref (b + adC 13 a0), .int a1])).length) Slot.unset).toArray = ls at hl ⊢
  have hl : lv_has ls 4 [(0, .ref (b + adC 13 a0)), (1, .int a1)] := hl
  show W p l e rm_X6_removeAt s m _ below meth c s.heap [] 0 0 (MQ below (PvC D cy b z tx k) _ s 0 0 (gA b 709 z)) _
  unfold F_X6_removeAt at h
  refine lv_iload_n hx hb dX6_removeAt_0 rfl (lv_at hl 1 rfl) ?_
  refine lv_if_lt (tgt := 12) hx hb dX6_removeAt_1 (by decide) (fun c1 => ?_) (fun c1 => ?_)
  · have h := h.1 c1
    exact rtC_v C0 hr hlk hR hS h dX6_removeAt_12
  · have h := h.2 c1
    refine lv_iload_n hx hb dX6_removeAt_4 rfl (lv_at hl 1 rfl) ?_
    refine lv_aload_n hx hb dX6_removeAt_5 rfl (lv_at hl 0 rfl) ?_
    refine gC_13_6 C0 hR av0 tbs_wsX60 mC3_2_146 dX6_removeAt_6 ?_
    refine lv_icmp_lt (tgt := 13) hx hb dX6_removeAt_9 (by decide) (fun c2 => ?_) (fun c2 => ?_)
    · have h := h.1 c2
      refine lv_aload_n hx hb dX6_removeAt_13 rfl (lv_at hl 0 rfl) ?_
      refine gC_13_0 C0 hR av0 tbs_wsX60 mC3_2_126 dX6_removeAt_14 ?_
      have w3 : a0 < 3 := by omega
      refine lv_iload_n hx hb dX6_removeAt_17 rfl (lv_at hl 1 rfl) ?_
      obtain ⟨j4, hj4, ej4, h⟩ := h
      refine lC_14 C0 hR w3 hj4 ej4 dX6_removeAt_18 ?_
      have w5 : (S.2 14 a0 j4) < 72 := hR.2.1.1 _ _ w3 hj4
      refine lv_astore_n (lv' := [(2, .ref (b + adC 21 (S.2 14 a0 j4))), (0, .ref (b + adC 13 a0)), (1, .int a1)]) hx hb dX6_removeAt_19 rfl hl (by decide) rfl (fun ls hl => ?_)
      refine lv_iload_n hx hb dX6_removeAt_20 rfl (lv_at hl 2 rfl) ?_
      refine lv_istore_n (lv' := [(3, .int a1), (2, .ref (b + adC 21 (S.2 14 a0 j4))), (0, .ref (b + adC 13 a0)), (1, .int a1)]) hx hb dX6_removeAt_21 rfl hl (by decide) rfl (fun ls hl => ?_)
      exact Bw_X6_removeAt_22 C0 hr hlk hT fuel a0 (S.2 14 a0 j4) a1 S _ _ _ av0 w5 h hR hS (lv_sub hl [2, 1, 0] rfl)
    · have h := h.2 c2
      exact rtC_v C0 hr hlk hR hS h dX6_removeAt_12

def rm_X6_release : Room := { frames := 1, cells := 0, slots := 0, locals := 23 }
def F_X6_release (a0 : Nat) (a1 : Int32) (S : sSt) (k : sSt → Prop) : Prop := ix a1 24 (fun j2 => ∀ S4, S4 = uI S 21 (S.2 14 a0 j2) 4 (-1) → ((¬ (S4.1 21 (S4.2 14 a0 j2) 5) = 0 → k S4) ∧ ((S4.1 21 (S4.2 14 a0 j2) 5) = 0 → F_X6_removeAt a0 a1 S4 (fun S9 => k S9))))
set_option maxHeartbeats 4000000 in
set_option maxRecDepth 100000 in
theorem c_X6_release (l : Launch) {D : va_G} {cy : Nat → ClassId} {b z : Nat} {tx : TX} {a0 : Nat} {a1 : Int32} {S : sSt} {k : sSt → Prop} (av0 : a0 < 3) (h : F_X6_release a0 a1 S k) : Met l yX6_release (Cond.code yX6_release cX6_release 2 none :: TB) rm_X6_release (va_Pc [.ref (b + adC 13 a0), .int a1] (fun U => RelC D cy b z tx S U U.heap ∧ TxR tx U)) (PvC D cy b z tx k) 0 0 (gA b 709 z) := by
  refine Met.ofW (cc := cX6_release) (maxL := 2) (ret := none) (by decide) rfl ?_
  intro p e s m args below meth c s₁ B hml hv
  obtain ⟨rfl, hR, hT⟩ := hv
  have C0 : CallFix p m c cX6_release 2 s _ TB RX6 := ⟨B.exec, B.bytes, hml, findClass_of_methodNamed B.named, fun w hw => atoms_spec B.pre w (List.mem_cons_of_mem _ hw)⟩
  have hr := B.returns
  have hlk := B.notSynchronized
  have hx := C0.1
  have hb := C0.2.1
  have hS : va_S (gA b 709 z) s.heap s.heap [] := va_S.rf
  have hl := lv_entry ([.ref (b + adC 13 a0), .int a1]) (n := 2) (Nat.le_of_ble_eq_true rfl)
  rw [lg_entry_eq]
  generalize (lg_sl ([.ref (b + adC 13 a0), .int a1]) ++ List.replicate (2 - (lg_sl ([.ref (b + adC 13 a0), .int a1])).length) Slot.unset).toArray = ls at hl ⊢
  have hl : lv_has ls 2 [(0, .ref (b + adC 13 a0)), (1, .int a1)] := hl
  show W p l e rm_X6_release s m _ below meth c s.heap [] 0 0 (MQ below (PvC D cy b z tx k) _ s 0 0 (gA b 709 z)) _
  unfold F_X6_release at h
  refine lv_aload_n hx hb dX6_release_0 rfl (lv_at hl 0 rfl) ?_
  refine gC_13_0 C0 hR av0 tbs_wsX60 mC3_2_126 dX6_release_1 ?_
  have w1 : a0 < 3 := by omega
  refine lv_iload_n hx hb dX6_release_4 rfl (lv_at hl 1 rfl) ?_
  obtain ⟨j2, hj2, ej2, h⟩ := h
  refine lC_14 C0 hR w1 hj2 ej2 dX6_release_5 ?_
  have w3 : (S.2 14 a0 j2) < 72 := hR.2.1.1 _ _ w1 hj2
  refine lv_iconst (v := (-1)) hx hb dX6_release_6 (by decide) ?_
  refine pCn_21_4 C0 hR hS w3 tbs_wsX10 mC3_1_221 hT dX6_release_7 (fun S4 eS4 H locs hR hS => ?_)
  have h := h S4 eS4
  refine lv_aload_n hx hb dX6_release_10 rfl (lv_at hl 0 rfl) ?_
  refine gC_13_0 C0 hR av0 tbs_wsX60 mC3_2_126 dX6_release_11 ?_
  have w5 : a0 < 3 := by omega
  refine lv_iload_n hx hb dX6_release_14 rfl (lv_at hl 1 rfl) ?_
  refine lC_14 C0 hR w5 hj2 ej2 dX6_release_15 ?_
  have w6 : (S4.2 14 a0 j2) < 72 := hR.2.1.1 _ _ w5 hj2
  refine gCn_21_5 C0 hR w6 tbs_wsX10 mC3_1_225 hT dX6_release_16 ?_
  refine lv_if_ne (tgt := 27) hx hb dX6_release_19 (by decide) (fun c7 => ?_) (fun c7 => ?_)
  · have h := h.1 c7
    exact rtC_v C0 hr hlk hR hS h dX6_release_27
  · have h := h.2 c7
    refine lv_aload_n hx hb dX6_release_22 rfl (lv_at hl 0 rfl) ?_
    refine lv_iload_n hx hb dX6_release_23 rfl (lv_at hl 1 rfl) ?_
    refine qC_Vv (As := [.int a1]) (rest := []) C0 (c_X6_removeAt l av0 h) (cwV 1 C0.2.2.2.2 (tbV mC3_3_26 ⟨mC3_3_28, mpC3_1_0, mC3_1_5, mC3_3_29⟩) rfl rfl rfl (by decide +kernel) ⟨Nat.le_of_ble_eq_true rfl, Nat.le_of_ble_eq_true rfl⟩) (rcC_13 hR av0) hR hT hS rfl hl.1 rfl (Nat.le_of_ble_eq_true rfl) dX6_release_24 ⟨Nat.zero_le _, Nat.zero_le _⟩ (fun S9 H locs h hR hS => ?_)
    exact rtC_v C0 hr hlk hR hS h dX6_release_27

def rm_X6_returnToSavepoint : Room := { frames := 2, cells := 0, slots := 0, locals := 44 }
def B_X6_returnToSavepoint_60 (kk10 : Nat → Int32 → Int32 → Int32 → Int32 → sSt → Prop) (a0 : Nat) (a1 : Int32) (a2 : Int32) (a3 : Int32) (a4 : Int32) (S : sSt) (k : Int32 → sSt → Prop) : Prop := ∀ x13 : Int32, x13 = a4 + (-1) → kk10 a0 a1 a2 a3 x13 S
set_option maxHeartbeats 4000000 in
set_option maxRecDepth 100000 in
theorem Bw_X6_returnToSavepoint_60 {p : Program} {l : Launch} {e : Env} {s : State} {m : MethodId} {args : Array Value} {below : List Frame} {meth : Method} {c : Code} {D : va_G} {cy : Nat → ClassId} {b z : Nat} {tx : TX} (C0 : CallFix p m c cX6_returnToSavepoint 6 s args TB RX6) (hr : meth.sig.returnType = (some .int)) (hlk : meth.locks = false) (hT : TxR tx s) {k : Int32 → sSt → Prop} {kk10 : Nat → Int32 → Int32 → Int32 → Int32 → sSt → Prop} (ih10 : ∀ (a0 : Nat) (a1 : Int32) (a2 : Int32) (a3 : Int32) (a4 : Int32) (S : sSt) (H : Heap) (locs : List Loc) (ls : Array Slot) (av0 : a0 < 3), kk10 a0 a1 a2 a3 a4 S → RelC D cy b z tx S s H → va_S (gA b 709 z) s.heap H locs → lv_has ls 6 [(0, .ref (b + adC 13 a0)), (1, .int a1), (2, .int a2), (3, .int a3), (4, .int a4)] → W p l e rm_X6_returnToSavepoint s m args below meth c H locs 0 0 (MQ below (PiC D cy b z tx k) args s 0 0 (gA b 709 z)) (F0 m 10 ls [])) : ∀ (a0 : Nat) (a1 : Int32) (a2 : Int32) (a3 : Int32) (a4 : Int32) (S : sSt) (H : Heap) (locs : List Loc) (ls : Array Slot) (av0 : a0 < 3), B_X6_returnToSavepoint_60 kk10 a0 a1 a2 a3 a4 S k → RelC D cy b z tx S s H → va_S (gA b 709 z) s.heap H locs → lv_has ls 6 [(0, .ref (b + adC 13 a0)), (1, .int a1), (2, .int a2), (3, .int a3), (4, .int a4)] → W p l e rm_X6_returnToSavepoint s m args below meth c H locs 0 0 (MQ below (PiC D cy b z tx k) args s 0 0 (gA b 709 z)) (F0 m 60 ls []) := by
  intro a0 a1 a2 a3 a4 S H locs ls av0 h hR hS hl
  have hx := C0.1
  have hb := C0.2.1
  unfold B_X6_returnToSavepoint_60 at h
  obtain ⟨x13, ex13⟩ : ∃ x13 : Int32, x13 = a4 + (-1) := ⟨_, rfl⟩
  have h := h x13 ex13
  refine w_iinc (v0 := (-1)) (lv' := [(4, .int x13), (0, .ref (b + adC 13 a0)), (1, .int a1), (2, .int a2), (3, .int a3)]) C0 dX6_returnToSavepoint_60 hl (k := 4) rfl (by decide) (by decide) x13 ex13 rfl (fun ls hl => ?_)
  refine lv_goto (tgt := 10) hx hb dX6_returnToSavepoint_63 (by decide) ?_
  exact ih10 a0 a1 a2 a3 x13 S _ _ _ av0 h hR hS (lv_sub hl [1, 2, 3, 4, 0] rfl)
def Bb_X6_returnToSavepoint_10 (kk10 : Nat → Int32 → Int32 → Int32 → Int32 → sSt → Prop) (a0 : Nat) (a1 : Int32) (a2 : Int32) (a3 : Int32) (a4 : Int32) (S : sSt) (k : Int32 → sSt → Prop) : Prop := ((a4 < 0 → ix a1 4 (fun j4 => ∀ S6, S6 = uI S 24 (4 * a0 + j4) 4 (a2 + 1) → k a3 S6)) ∧ (¬ a4 < 0 → ix a4 24 (fun j8 => F_X1_isLockedBy (S.2 14 a0 j8) a1 S (fun r10 S11 => ((r10 = 0 → B_X6_returnToSavepoint_60 kk10 a0 a1 a2 a3 a4 S11 k) ∧ (¬ r10 = 0 → F_X1_isSavedAt (S.2 14 a0 j8) a2 S11 (fun r14 S15 => ((r14 = 0 → F_X6_release a0 a4 S15 (fun S18 => ∀ x19 : Int32, x19 = a3 + 1 → B_X6_returnToSavepoint_60 kk10 a0 a1 a2 x19 a4 S18 k)) ∧ (¬ r14 = 0 → F_X1_returnTo (S.2 14 a0 j8) a2 S15 (fun S21 => B_X6_returnToSavepoint_60 kk10 a0 a1 a2 a3 a4 S21 k))))))))))
set_option maxHeartbeats 4000000 in
set_option maxRecDepth 100000 in
theorem Bbw_X6_returnToSavepoint_10 {p : Program} {l : Launch} {e : Env} {s : State} {m : MethodId} {args : Array Value} {below : List Frame} {meth : Method} {c : Code} {D : va_G} {cy : Nat → ClassId} {b z : Nat} {tx : TX} (C0 : CallFix p m c cX6_returnToSavepoint 6 s args TB RX6) (hr : meth.sig.returnType = (some .int)) (hlk : meth.locks = false) (hT : TxR tx s) {k : Int32 → sSt → Prop} {kk10 : Nat → Int32 → Int32 → Int32 → Int32 → sSt → Prop} (ih10 : ∀ (a0 : Nat) (a1 : Int32) (a2 : Int32) (a3 : Int32) (a4 : Int32) (S : sSt) (H : Heap) (locs : List Loc) (ls : Array Slot) (av0 : a0 < 3), kk10 a0 a1 a2 a3 a4 S → RelC D cy b z tx S s H → va_S (gA b 709 z) s.heap H locs → lv_has ls 6 [(0, .ref (b + adC 13 a0)), (1, .int a1), (2, .int a2), (3, .int a3), (4, .int a4)] → W p l e rm_X6_returnToSavepoint s m args below meth c H locs 0 0 (MQ below (PiC D cy b z tx k) args s 0 0 (gA b 709 z)) (F0 m 10 ls [])) : ∀ (a0 : Nat) (a1 : Int32) (a2 : Int32) (a3 : Int32) (a4 : Int32) (S : sSt) (H : Heap) (locs : List Loc) (ls : Array Slot) (av0 : a0 < 3), Bb_X6_returnToSavepoint_10 kk10 a0 a1 a2 a3 a4 S k → RelC D cy b z tx S s H → va_S (gA b 709 z) s.heap H locs → lv_has ls 6 [(0, .ref (b + adC 13 a0)), (1, .int a1), (2, .int a2), (3, .int a3), (4, .int a4)] → W p l e rm_X6_returnToSavepoint s m args below meth c H locs 0 0 (MQ below (PiC D cy b z tx k) args s 0 0 (gA b 709 z)) (F0 m 10 ls []) := by
  intro a0 a1 a2 a3 a4 S H locs ls av0 h hR hS hl
  have hx := C0.1
  have hb := C0.2.1
  unfold Bb_X6_returnToSavepoint_10 at h
  refine lv_iload hx hb dX6_returnToSavepoint_10 (lv_at hl 4 rfl) ?_
  refine lv_if_lt (tgt := 66) hx hb dX6_returnToSavepoint_12 (by decide) (fun c2 => ?_) (fun c2 => ?_)
  · have h := h.1 c2
    refine lv_aload_n hx hb dX6_returnToSavepoint_66 rfl (lv_at hl 0 rfl) ?_
    refine gC_13_1 C0 hR av0 tbs_wsX60 mC3_2_129 dX6_returnToSavepoint_67 ?_
    have w3 : a0 < 3 := by omega
    refine lv_iload_n hx hb dX6_returnToSavepoint_70 rfl (lv_at hl 1 rfl) ?_
    obtain ⟨j4, hj4, ej4, h⟩ := h
    refine lC_15 C0 hR w3 hj4 ej4 dX6_returnToSavepoint_71 ?_
    have w5 : (4 * a0 + j4) < 12 := by omega
    refine lv_iload_n hx hb dX6_returnToSavepoint_72 rfl (lv_at hl 2 rfl) ?_
    refine lv_iconst (v := 1) hx hb dX6_returnToSavepoint_73 (by decide) ?_
    refine lv_iadd hx hb dX6_returnToSavepoint_74 ?_
    refine pCn_24_4 C0 hR hS w5 tbs_wsX50 mC3_2_66 hT dX6_returnToSavepoint_75 (fun S6 eS6 H locs hR hS => ?_)
    have h := h S6 eS6
    refine lv_iload_n hx hb dX6_returnToSavepoint_78 rfl (lv_at hl 3 rfl) ?_
    exact rtC_i C0 hr hlk hR hS h dX6_returnToSavepoint_79
  · have h := h.2 c2
    refine lv_aload_n hx hb dX6_returnToSavepoint_15 rfl (lv_at hl 0 rfl) ?_
    refine gC_13_0 C0 hR av0 tbs_wsX60 mC3_2_126 dX6_returnToSavepoint_16 ?_
    have w7 : a0 < 3 := by omega
    refine lv_iload hx hb dX6_returnToSavepoint_19 (lv_at hl 4 rfl) ?_
    obtain ⟨j8, hj8, ej8, h⟩ := h
    refine lC_14 C0 hR w7 hj8 ej8 dX6_returnToSavepoint_21 ?_
    have w9 : (S.2 14 a0 j8) < 72 := hR.2.1.1 _ _ w7 hj8
    refine lv_astore (lv' := [(5, .ref (b + adC 21 (S.2 14 a0 j8))), (0, .ref (b + adC 13 a0)), (1, .int a1), (2, .int a2), (3, .int a3), (4, .int a4)]) hx hb dX6_returnToSavepoint_22 hl (by decide) rfl (fun ls hl => ?_)
    refine lv_aload hx hb dX6_returnToSavepoint_24 (lv_at hl 0 rfl) ?_
    refine lv_iload_n hx hb dX6_returnToSavepoint_26 rfl (lv_at hl 2 rfl) ?_
    refine qC_Vi (As := [.int a1]) (rest := []) C0 (c_X1_isLockedBy l w9 h) (cwV 1 C0.2.2.2.2 (tbV mC3_4_232 ⟨mC3_4_233, mC3_4_234, mC3_1_7, mC3_4_235⟩) rfl rfl rfl (by decide +kernel) ⟨Nat.le_of_ble_eq_true rfl, Nat.le_of_ble_eq_true rfl⟩) (rcC_21 hR w9) hR hT hS rfl hl.1 rfl (Nat.le_of_ble_eq_true rfl) dX6_returnToSavepoint_27 ⟨Nat.zero_le _, Nat.zero_le _⟩ (fun r10 S11 H locs h hR hS => ?_)
    refine lv_if_eq (tgt := 60) hx hb dX6_returnToSavepoint_30 (by decide) (fun c12 => ?_) (fun c12 => ?_)
    · have h := h.1 c12
      exact Bw_X6_returnToSavepoint_60 C0 hr hlk hT ih10 a0 a1 a2 a3 a4 S11 _ _ _ av0 h hR hS (lv_sub hl [1, 2, 3, 4, 5] rfl)
    · have h := h.2 c12
      refine lv_aload hx hb dX6_returnToSavepoint_33 (lv_at hl 0 rfl) ?_
      refine lv_iload_n hx hb dX6_returnToSavepoint_35 rfl (lv_at hl 3 rfl) ?_
      refine qC_Vi (As := [.int a2]) (rest := []) C0 (c_X1_isSavedAt l w9 h) (cwV 1 C0.2.2.2.2 (tbV mC3_5_15 ⟨mC3_3_66, mC3_3_67, mC3_1_7, mC3_3_68⟩) rfl rfl rfl (by decide +kernel) ⟨Nat.le_of_ble_eq_true rfl, Nat.le_of_ble_eq_true rfl⟩) (rcC_21 hR w9) hR hT hS rfl hl.1 rfl (Nat.le_of_ble_eq_true rfl) dX6_returnToSavepoint_36 ⟨Nat.zero_le _, Nat.zero_le _⟩ (fun r14 S15 H locs h hR hS => ?_)
      refine lv_if_eq (tgt := 51) hx hb dX6_returnToSavepoint_39 (by decide) (fun c16 => ?_) (fun c16 => ?_)
      · have h := h.1 c16
        refine lv_aload_n hx hb dX6_returnToSavepoint_51 rfl (lv_at hl 1 rfl) ?_
        refine lv_iload hx hb dX6_returnToSavepoint_52 (lv_at hl 5 rfl) ?_
        refine qC_Vv (As := [.int a4]) (rest := []) C0 (c_X6_release l av0 h) (cwV 1 C0.2.2.2.2 (tbV mC3_5_20 ⟨mC3_5_22, mpC3_1_10, mC3_1_5, mC3_5_23⟩) rfl rfl rfl (by decide +kernel) ⟨Nat.le_of_ble_eq_true rfl, Nat.le_of_ble_eq_true rfl⟩) (rcC_13 hR av0) hR hT hS rfl hl.1 rfl (Nat.le_of_ble_eq_true rfl) dX6_returnToSavepoint_54 ⟨Nat.zero_le _, Nat.zero_le _⟩ (fun S18 H locs h hR hS => ?_)
        obtain ⟨x19, ex19⟩ : ∃ x19 : Int32, x19 = a3 + 1 := ⟨_, rfl⟩
        have h := h x19 ex19
        refine w_iinc (v0 := 1) (lv' := [(3, .int x19), (5, .ref (b + adC 21 (S.2 14 a0 j8))), (0, .ref (b + adC 13 a0)), (1, .int a1), (2, .int a2), (4, .int a4)]) C0 dX6_returnToSavepoint_57 hl (k := 4) rfl (by decide) (by decide) x19 ex19 rfl (fun ls hl => ?_)
        exact Bw_X6_returnToSavepoint_60 C0 hr hlk hT ih10 a0 a1 a2 x19 a4 S18 _ _ _ av0 h hR hS (lv_sub hl [2, 3, 4, 0, 5] rfl)
      · have h := h.2 c16
        refine lv_aload hx hb dX6_returnToSavepoint_42 (lv_at hl 0 rfl) ?_
        refine lv_iload_n hx hb dX6_returnToSavepoint_44 rfl (lv_at hl 3 rfl) ?_
        refine qC_Vv (As := [.int a2]) (rest := []) C0 (c_X1_returnTo l w9 h) (cwV 1 C0.2.2.2.2 (tbV mC3_5_16 ⟨mC3_5_17, mC3_5_18, mC3_1_7, mC3_5_19⟩) rfl rfl rfl (by decide +kernel) ⟨Nat.le_of_ble_eq_true rfl, Nat.le_of_ble_eq_true rfl⟩) (rcC_21 hR w9) hR hT hS rfl hl.1 rfl (Nat.le_of_ble_eq_true rfl) dX6_returnToSavepoint_45 ⟨Nat.zero_le _, Nat.zero_le _⟩ (fun S21 H locs h hR hS => ?_)
        refine lv_goto (tgt := 60) hx hb dX6_returnToSavepoint_48 (by decide) ?_
        exact Bw_X6_returnToSavepoint_60 C0 hr hlk hT ih10 a0 a1 a2 a3 a4 S21 _ _ _ av0 h hR hS (lv_sub hl [1, 2, 3, 4, 5] rfl)
def B_X6_returnToSavepoint_10 (n9 : Nat) (a0 : Nat) (a1 : Int32) (a2 : Int32) (a3 : Int32) (a4 : Int32) (S : sSt) (k : Int32 → sSt → Prop) : Prop := (Nat.rec (motive := fun _ => Nat → Int32 → Int32 → Int32 → Int32 → sSt → Prop) (fun _ _ _ _ _ _ => False) (fun _ r9 => fun a0 a1 a2 a3 a4 S => Bb_X6_returnToSavepoint_10 r9 a0 a1 a2 a3 a4 S k) n9 : Nat → Int32 → Int32 → Int32 → Int32 → sSt → Prop) a0 a1 a2 a3 a4 S
theorem B_X6_returnToSavepoint_10_s (n9 : Nat) (a0 : Nat) (a1 : Int32) (a2 : Int32) (a3 : Int32) (a4 : Int32) (S : sSt) (k : Int32 → sSt → Prop) : B_X6_returnToSavepoint_10 (n9 + 1) a0 a1 a2 a3 a4 S k = Bb_X6_returnToSavepoint_10 (fun a0 a1 a2 a3 a4 S => B_X6_returnToSavepoint_10 n9 a0 a1 a2 a3 a4 S k) a0 a1 a2 a3 a4 S k := rfl
set_option maxHeartbeats 4000000 in
set_option maxRecDepth 100000 in
theorem Bw_X6_returnToSavepoint_10 {p : Program} {l : Launch} {e : Env} {s : State} {m : MethodId} {args : Array Value} {below : List Frame} {meth : Method} {c : Code} {D : va_G} {cy : Nat → ClassId} {b z : Nat} {tx : TX} (C0 : CallFix p m c cX6_returnToSavepoint 6 s args TB RX6) (hr : meth.sig.returnType = (some .int)) (hlk : meth.locks = false) (hT : TxR tx s) {k : Int32 → sSt → Prop} : ∀ (n9 : Nat), ∀ (a0 : Nat) (a1 : Int32) (a2 : Int32) (a3 : Int32) (a4 : Int32) (S : sSt) (H : Heap) (locs : List Loc) (ls : Array Slot) (av0 : a0 < 3), B_X6_returnToSavepoint_10 n9 a0 a1 a2 a3 a4 S k → RelC D cy b z tx S s H → va_S (gA b 709 z) s.heap H locs → lv_has ls 6 [(0, .ref (b + adC 13 a0)), (1, .int a1), (2, .int a2), (3, .int a3), (4, .int a4)] → W p l e rm_X6_returnToSavepoint s m args below meth c H locs 0 0 (MQ below (PiC D cy b z tx k) args s 0 0 (gA b 709 z)) (F0 m 10 ls []) := by
  intro n9
  induction n9 with
  | zero => intro a0 a1 a2 a3 a4 S H locs ls av0 h; exact h.elim
  | succ n9 ih =>
    intro a0 a1 a2 a3 a4 S H locs ls av0 h hR hS hl
    exact Bbw_X6_returnToSavepoint_10 C0 hr hlk hT ih a0 a1 a2 a3 a4 S H locs ls av0 h hR hS hl
def F_X6_returnToSavepoint (a0 : Nat) (a1 : Int32) (a2 : Int32) (S : sSt) (k : Int32 → sSt → Prop) : Prop := ∀ x1 : Int32, x1 = ((S.1 13 a0 6) - 1) → B_X6_returnToSavepoint_10 fuel a0 a1 a2 0 x1 S k
set_option maxHeartbeats 4000000 in
set_option maxRecDepth 100000 in
theorem c_X6_returnToSavepoint (l : Launch) {D : va_G} {cy : Nat → ClassId} {b z : Nat} {tx : TX} {a0 : Nat} {a1 : Int32} {a2 : Int32} {S : sSt} {k : Int32 → sSt → Prop} (av0 : a0 < 3) (h : F_X6_returnToSavepoint a0 a1 a2 S k) : Met l yX6_returnToSavepoint (Cond.code yX6_returnToSavepoint cX6_returnToSavepoint 6 (some .int) :: TB) rm_X6_returnToSavepoint (va_Pc [.ref (b + adC 13 a0), .int a1, .int a2] (fun U => RelC D cy b z tx S U U.heap ∧ TxR tx U)) (PiC D cy b z tx k) 0 0 (gA b 709 z) := by
  refine Met.ofW (cc := cX6_returnToSavepoint) (maxL := 6) (ret := (some .int)) (by decide) rfl ?_
  intro p e s m args below meth c s₁ B hml hv
  obtain ⟨rfl, hR, hT⟩ := hv
  have C0 : CallFix p m c cX6_returnToSavepoint 6 s _ TB RX6 := ⟨B.exec, B.bytes, hml, findClass_of_methodNamed B.named, fun w hw => atoms_spec B.pre w (List.mem_cons_of_mem _ hw)⟩
  have hr := B.returns
  have hlk := B.notSynchronized
  have hx := C0.1
  have hb := C0.2.1
  have hS : va_S (gA b 709 z) s.heap s.heap [] := va_S.rf
  have hl := lv_entry ([.ref (b + adC 13 a0), .int a1, .int a2]) (n := 6) (Nat.le_of_ble_eq_true rfl)
  rw [lg_entry_eq]
  generalize (lg_sl ([.ref (b + adC 13 a0), .int a1, .int a2]) ++ List.replicate (6 - (lg_sl ([.ref (b + adC 13 a0), .int a1, .int a2])).length) Slot.unset).toArray = ls at hl ⊢
  have hl : lv_has ls 6 [(0, .ref (b + adC 13 a0)), (1, .int a1), (2, .int a2)] := hl
  show W p l e rm_X6_returnToSavepoint s m _ below meth c s.heap [] 0 0 (MQ below (PiC D cy b z tx k) _ s 0 0 (gA b 709 z)) _
  unfold F_X6_returnToSavepoint at h
  refine lv_iconst (v := 0) hx hb dX6_returnToSavepoint_0 (by decide) ?_
  refine lv_istore_n (lv' := [(3, .int 0), (0, .ref (b + adC 13 a0)), (1, .int a1), (2, .int a2)]) hx hb dX6_returnToSavepoint_1 rfl hl (by decide) rfl (fun ls hl => ?_)
  refine lv_aload_n hx hb dX6_returnToSavepoint_2 rfl (lv_at hl 1 rfl) ?_
  refine gC_13_6 C0 hR av0 tbs_wsX60 mC3_2_146 dX6_returnToSavepoint_3 ?_
  refine lv_iconst (v := 1) hx hb dX6_returnToSavepoint_6 (by decide) ?_
  refine lv_isub hx hb dX6_returnToSavepoint_7 ?_
  refine lv_topi (fun x1 ex1 => ?_)
  have h := h x1 ex1
  refine lv_istore (lv' := [(4, .int x1), (3, .int 0), (0, .ref (b + adC 13 a0)), (1, .int a1), (2, .int a2)]) hx hb dX6_returnToSavepoint_8 hl (by decide) rfl (fun ls hl => ?_)
  exact Bw_X6_returnToSavepoint_10 C0 hr hlk hT fuel a0 a1 a2 0 x1 S _ _ _ av0 h hR hS (lv_sub hl [2, 3, 4, 1, 0] rfl)

def rm_X11_undo : Room := { frames := 8, cells := 3, slots := 18, locals := 131 }
def B_X11_undo_42 (a1 : Int32) (a2 : Int32) (S : sSt) (k : Int32 → sSt → Prop) (kx : String → sSt → Prop) : Prop := F_X11_settleOpen a1 S (fun S9 => F_X6_returnToSavepoint (S9.2 0 0 4) a1 a2 S9 (fun r11 S12 => k r11 S12)) kx
set_option maxHeartbeats 4000000 in
set_option maxRecDepth 100000 in
theorem Bw_X11_undo_42 {p : Program} {l : Launch} {e : Env} {s : State} {m : MethodId} {args : Array Value} {below : List Frame} {meth : Method} {c : Code} {D : va_G} {cy : Nat → ClassId} {b z : Nat} {tx : TX} (C0 : CallFix p m c cX11_undo 4 s args TB RX11) (hr : meth.sig.returnType = (some .int)) (hlk : meth.locks = false) (hT : TxR tx s) (hl0 : l.stackTraces = false) (hX0 : TxP tx b z s s.heap) (hexc : ∀ x ∈ c.exceptionTable.toList, False) {k : Int32 → sSt → Prop} {kx : String → sSt → Prop} : ∀ (a1 : Int32) (a2 : Int32) (S : sSt) (H : Heap) (locs : List Loc) (ls : Array Slot) , B_X11_undo_42 a1 a2 S k kx → RelC D cy b z tx S s H → va_S (gA b 709 z) s.heap H locs → lv_has ls 4 [(0, .ref (b + adC 0 0)), (1, .int a1), (2, .int a2)] → W p l e rm_X11_undo s m args below meth c H locs 2 12 (vx_MQ below (PiC D cy b z tx k) (XeC D cy b z tx kx) args s 3 18 (gA b 709 z)) (F0 m 42 ls []) := by
  intro a1 a2 S H locs ls h hR hS hl
  have hx := C0.1
  have hb := C0.2.1
  unfold B_X11_undo_42 at h
  refine lv_aload_n hx hb dX11_undo_42 rfl (lv_at hl 0 rfl) ?_
  refine lv_iload_n hx hb dX11_undo_43 rfl (lv_at hl 1 rfl) ?_
  refine qx_Vv (As := [.int a1]) (rest := []) C0 hlk hexc (c_X11_settleOpen l hl0 h) (cwV 1 C0.2.2.2.2 (tbV mC3_5_7 ⟨mC3_5_9, mpC3_1_9, mC3_1_1, mC3_5_10⟩) rfl rfl rfl (by decide +kernel) ⟨Nat.le_of_ble_eq_true rfl, Nat.le_of_ble_eq_true rfl⟩) (rcC_0 hR Nat.zero_lt_one) hR hT hS rfl hl.1 rfl (Nat.le_of_ble_eq_true rfl) dX11_undo_44 ⟨Nat.le_of_ble_eq_true rfl, Nat.le_of_ble_eq_true rfl⟩ ⟨Nat.le_of_ble_eq_true rfl, Nat.le_of_ble_eq_true rfl⟩ (fun S9 H locs h hR hS => ?_)
  refine lv_aload_n hx hb dX11_undo_47 rfl (lv_at hl 0 rfl) ?_
  refine gC_0_4 C0 hR Nat.zero_lt_one tbs_wsX110 mC3_2_213 dX11_undo_48 ?_
  have w10 : (S9.2 0 0 4) < 3 := hR.2.1.2.1
  refine lv_iload_n hx hb dX11_undo_51 rfl (lv_at hl 1 rfl) ?_
  refine lv_iload_n hx hb dX11_undo_52 rfl (lv_at hl 2 rfl) ?_
  refine qC_Vi (As := [.int a1, .int a2]) (rest := []) C0 (c_X6_returnToSavepoint l w10 h) (cwV 2 C0.2.2.2.2 (tbV mC3_5_11 ⟨mC3_5_12, mC3_5_13, mC3_1_5, mC3_5_14⟩) rfl rfl rfl (by decide +kernel) ⟨Nat.le_of_ble_eq_true rfl, Nat.le_of_ble_eq_true rfl⟩) (rcC_13 hR w10) hR hT hS rfl hl.1 rfl (Nat.le_of_ble_eq_true rfl) dX11_undo_53 ⟨Nat.le_of_ble_eq_true rfl, Nat.le_of_ble_eq_true rfl⟩ (fun r11 S12 H locs h hR hS => ?_)
  refine vx_ret (W.widen (k := 3) (n := 18) (Nat.le_of_ble_eq_true rfl) (Nat.le_of_ble_eq_true rfl) ?_); exact rtC_i C0 hr hlk hR hS h dX11_undo_56
def B_X11_undo_34 (S : sSt) (k : Int32 → sSt → Prop) (kx : String → sSt → Prop) : Prop := kx "java/lang/IllegalArgumentException" S
set_option maxHeartbeats 4000000 in
set_option maxRecDepth 100000 in
theorem Bw_X11_undo_34 {p : Program} {l : Launch} {e : Env} {s : State} {m : MethodId} {args : Array Value} {below : List Frame} {meth : Method} {c : Code} {D : va_G} {cy : Nat → ClassId} {b z : Nat} {tx : TX} (C0 : CallFix p m c cX11_undo 4 s args TB RX11) (hr : meth.sig.returnType = (some .int)) (hlk : meth.locks = false) (hT : TxR tx s) (hl0 : l.stackTraces = false) (hX0 : TxP tx b z s s.heap) (hexc : ∀ x ∈ c.exceptionTable.toList, False) {k : Int32 → sSt → Prop} {kx : String → sSt → Prop} : ∀ (S : sSt) (H : Heap) (locs : List Loc) (ls : Array Slot) , B_X11_undo_34 S k kx → RelC D cy b z tx S s H → va_S (gA b 709 z) s.heap H locs → lv_has ls 4 [] → W p l e rm_X11_undo s m args below meth c H locs 1 6 (vx_MQ below (PiC D cy b z tx k) (XeC D cy b z tx kx) args s 3 18 (gA b 709 z)) (F0 m 34 ls []) := by
  intro S H locs ls h hR hS hl
  have hx := C0.1
  have hb := C0.2.1
  unfold B_X11_undo_34 at h
  exact w_throw_0 C0 hl0 hX0 hT hR hS hl.1 hexc hlk h mC3_4_45 mC3_1_21 dX11_undo_34 dX11_undo_37 dX11_undo_38 dX11_undo_41 (Nat.le_of_ble_eq_true rfl) (Nat.le_of_ble_eq_true rfl) (Nat.le_of_ble_eq_true rfl) (Nat.le_of_ble_eq_true rfl) (Nat.le_of_ble_eq_true rfl) (Nat.le_of_ble_eq_true rfl)
def F_X11_undo (a1 : Int32) (a2 : Int32) (S : sSt) (k : Int32 → sSt → Prop) (kx : String → sSt → Prop) : Prop := F_X11_needSession a1 S (fun S2 => ix a1 4 (fun j5 => (((S2.1 24 (4 * (S2.2 0 0 4) + j5) 3) = 0 → B_X11_undo_42 a1 a2 S2 k kx) ∧ (¬ (S2.1 24 (4 * (S2.2 0 0 4) + j5) 3) = 0 → ((a2 < 0 → B_X11_undo_34 S2 k kx) ∧ (¬ a2 < 0 → ((a2 < (S2.1 24 (4 * (S2.2 0 0 4) + j5) 4) → B_X11_undo_42 a1 a2 S2 k kx) ∧ (¬ a2 < (S2.1 24 (4 * (S2.2 0 0 4) + j5) 4) → B_X11_undo_34 S2 k kx)))))))) kx
set_option maxHeartbeats 4000000 in
set_option maxRecDepth 100000 in
theorem c_X11_undo (l : Launch) (hl0 : l.stackTraces = false) {D : va_G} {cy : Nat → ClassId} {b z : Nat} {tx : TX} {a1 : Int32} {a2 : Int32} {S : sSt} {k : Int32 → sSt → Prop} {kx : String → sSt → Prop} (h : F_X11_undo a1 a2 S k kx) : vx_Met l yX11_undo (Cond.code yX11_undo cX11_undo 4 (some .int) :: TB) rm_X11_undo (va_Pc [.ref (b + adC 0 0), .int a1, .int a2] (fun U => RelC D cy b z tx S U U.heap ∧ TxR tx U)) (PiC D cy b z tx k) (XeC D cy b z tx kx) 3 18 (gA b 709 z) := by
  refine vx_ofW (cc := cX11_undo) (maxL := 4) (ret := (some .int)) (by decide) rfl ?_
  intro p e s m args below meth c s₁ B hml hexc hv
  obtain ⟨rfl, hR, hT⟩ := hv
  have hX0 := hR.2.2
  have C0 : CallFix p m c cX11_undo 4 s _ TB RX11 := ⟨B.exec, B.bytes, hml, findClass_of_methodNamed B.named, fun w hw => atoms_spec B.pre w (List.mem_cons_of_mem _ hw)⟩
  have hr := B.returns
  have hlk := B.notSynchronized
  have hx := C0.1
  have hb := C0.2.1
  have hS : va_S (gA b 709 z) s.heap s.heap [] := va_S.rf
  have hl := lv_entry ([.ref (b + adC 0 0), .int a1, .int a2]) (n := 4) (Nat.le_of_ble_eq_true rfl)
  rw [lg_entry_eq]
  generalize (lg_sl ([.ref (b + adC 0 0), .int a1, .int a2]) ++ List.replicate (4 - (lg_sl ([.ref (b + adC 0 0), .int a1, .int a2])).length) Slot.unset).toArray = ls at hl ⊢
  have hl : lv_has ls 4 [(0, .ref (b + adC 0 0)), (1, .int a1), (2, .int a2)] := hl
  show W p l e rm_X11_undo s m _ below meth c s.heap [] 0 0 (vx_MQ below (PiC D cy b z tx k) (XeC D cy b z tx kx) _ s 3 18 (gA b 709 z)) _
  unfold F_X11_undo at h
  refine lv_aload_n hx hb dX11_undo_0 rfl (lv_at hl 0 rfl) ?_
  refine lv_iload_n hx hb dX11_undo_1 rfl (lv_at hl 1 rfl) ?_
  refine qx_Vv (As := [.int a1]) (rest := []) C0 hlk hexc (c_X11_needSession l hl0 h) (cwV 1 C0.2.2.2.2 (tbV mC3_4_133 ⟨mC3_4_135, mpC3_1_5, mC3_1_1, mC3_4_136⟩) rfl rfl rfl (by decide +kernel) ⟨Nat.le_of_ble_eq_true rfl, Nat.le_of_ble_eq_true rfl⟩) (rcC_0 hR Nat.zero_lt_one) hR hT hS rfl hl.1 rfl (Nat.le_of_ble_eq_true rfl) dX11_undo_2 ⟨Nat.le_of_ble_eq_true rfl, Nat.le_of_ble_eq_true rfl⟩ ⟨Nat.le_of_ble_eq_true rfl, Nat.le_of_ble_eq_true rfl⟩ (fun S2 H locs h hR hS => ?_)
  refine lv_aload_n hx hb dX11_undo_5 rfl (lv_at hl 0 rfl) ?_
  refine gC_0_4 C0 hR Nat.zero_lt_one tbs_wsX110 mC3_2_213 dX11_undo_6 ?_
  have w3 : (S2.2 0 0 4) < 3 := hR.2.1.2.1
  refine gCn_13_1 C0 hR w3 tbs_wsX60 mC3_2_131 hT dX11_undo_9 ?_
  have w4 : (S2.2 0 0 4) < 3 := by omega
  refine lv_iload_n hx hb dX11_undo_12 rfl (lv_at hl 1 rfl) ?_
  obtain ⟨j5, hj5, ej5, h⟩ := h
  refine lC_15 C0 hR w4 hj5 ej5 dX11_undo_13 ?_
  have w6 : (4 * (S2.2 0 0 4) + j5) < 12 := by omega
  refine lv_astore_n (lv' := [(3, .ref (b + adC 24 (4 * (S2.2 0 0 4) + j5))), (0, .ref (b + adC 0 0)), (1, .int a1), (2, .int a2)]) hx hb dX11_undo_14 rfl hl (by decide) rfl (fun ls hl => ?_)
  refine lv_aload_n hx hb dX11_undo_15 rfl (lv_at hl 0 rfl) ?_
  refine gCn_24_3 C0 hR w6 tbs_wsX50 mC3_2_63 hT dX11_undo_16 ?_
  refine lv_if_eq (tgt := 42) hx hb dX11_undo_19 (by decide) (fun c7 => ?_) (fun c7 => ?_)
  · have h := h.1 c7
    refine W.widen (k := 2) (n := 12) (Nat.le_of_ble_eq_true rfl) (Nat.le_of_ble_eq_true rfl) ?_
    exact Bw_X11_undo_42 C0 hr hlk hT hl0 hX0 hexc a1 a2 S2 _ _ _ h hR hS (lv_sub hl [1, 2, 3] rfl)
  · have h := h.2 c7
    refine lv_iload_n hx hb dX11_undo_22 rfl (lv_at hl 3 rfl) ?_
    refine lv_if_lt (tgt := 34) hx hb dX11_undo_23 (by decide) (fun c13 => ?_) (fun c13 => ?_)
    · have h := h.1 c13
      refine W.widen (k := 1) (n := 6) (Nat.le_of_ble_eq_true rfl) (Nat.le_of_ble_eq_true rfl) ?_
      exact Bw_X11_undo_34 C0 hr hlk hT hl0 hX0 hexc S2 _ _ _ h hR hS (lv_sub hl [] rfl)
    · have h := h.2 c13
      refine lv_iload_n hx hb dX11_undo_26 rfl (lv_at hl 3 rfl) ?_
      refine lv_aload_n hx hb dX11_undo_27 rfl (lv_at hl 0 rfl) ?_
      refine gCn_24_4 C0 hR w6 tbs_wsX50 mC3_2_67 hT dX11_undo_28 ?_
      refine lv_icmp_lt (tgt := 42) hx hb dX11_undo_31 (by decide) (fun c14 => ?_) (fun c14 => ?_)
      · have h := h.1 c14
        refine W.widen (k := 2) (n := 12) (Nat.le_of_ble_eq_true rfl) (Nat.le_of_ble_eq_true rfl) ?_
        exact Bw_X11_undo_42 C0 hr hlk hT hl0 hX0 hexc a1 a2 S2 _ _ _ h hR hS (lv_sub hl [1, 2, 3] rfl)
      · have h := h.2 c14
        refine W.widen (k := 1) (n := 6) (Nat.le_of_ble_eq_true rfl) (Nat.le_of_ble_eq_true rfl) ?_
        exact Bw_X11_undo_34 C0 hr hlk hT hl0 hX0 hexc S2 _ _ _ h hR hS (lv_sub hl [] rfl)

def rm_X2_add : Room := { frames := 0, cells := 0, slots := 0, locals := 0 }
def F_X2_add (a0 : Nat) (a1 : Int32) (a2 : Nat) (S : sSt) (k : sSt → Prop) : Prop := ∀ x1 : Int32, x1 = ((((S.1 19 a0 1) + (S.1 19 a0 2)) - ((S.1 19 a0 1) + (S.1 19 a0 2)) / 60 * 60) * 5) → ix (x1 + 0) 300 (fun j3 => ∀ S4, S4 = uI S 20 a0 j3 a1 → ix (x1 + 1) 300 (fun j6 => ∀ S7, S7 = uI S4 20 a0 j6 (S4.1 21 a2 6) → ix (x1 + 2) 300 (fun j10 => ∀ S11, S11 = uI S7 20 a0 j10 (S7.1 22 (6 * a2 + 1) 0) → ix (x1 + 3) 300 (fun j14 => ∀ S15, S15 = uI S11 20 a0 j14 (S11.1 22 (6 * a2 + 1) 5) → ix (x1 + 4) 300 (fun j18 => ∀ S19, S19 = uI S15 20 a0 j18 (S15.1 22 (6 * a2 + 1) 6) → ((60 ≤ (S19.1 19 a0 2) → ∀ S21, S21 = uI S19 19 a0 1 (((S19.1 19 a0 1) + 1) - ((S19.1 19 a0 1) + 1) / 60 * 60) → k S21) ∧ (¬ 60 ≤ (S19.1 19 a0 2) → ∀ S22, S22 = uI S19 19 a0 2 ((S19.1 19 a0 2) + 1) → k S22)))))))
set_option maxHeartbeats 4000000 in
set_option maxRecDepth 100000 in
theorem c_X2_add (l : Launch) {D : va_G} {cy : Nat → ClassId} {b z : Nat} {tx : TX} {a0 : Nat} {a1 : Int32} {a2 : Nat} {S : sSt} {k : sSt → Prop} (av0 : a0 < 3) (av2 : a2 < 72) (h : F_X2_add a0 a1 a2 S k) : Met l yX2_add (Cond.code yX2_add cX2_add 4 none :: TB) rm_X2_add (va_Pc [.ref (b + adC 19 a0), .int a1, .ref (b + adC 21 a2)] (fun U => RelC D cy b z tx S U U.heap ∧ TxR tx U)) (PvC D cy b z tx k) 0 0 (gA b 709 z) := by
  refine Met.ofW (cc := cX2_add) (maxL := 4) (ret := none) (by decide) rfl ?_
  intro p e s m args below meth c s₁ B hml hv
  obtain ⟨rfl, hR, hT⟩ := hv
  have C0 : CallFix p m c cX2_add 4 s _ TB RX2 := ⟨B.exec, B.bytes, hml, findClass_of_methodNamed B.named, fun w hw => atoms_spec B.pre w (List.mem_cons_of_mem _ hw)⟩
  have hr := B.returns
  have hlk := B.notSynchronized
  have hx := C0.1
  have hb := C0.2.1
  have hS : va_S (gA b 709 z) s.heap s.heap [] := va_S.rf
  have hl := lv_entry ([.ref (b + adC 19 a0), .int a1, .ref (b + adC 21 a2)]) (n := 4) (Nat.le_of_ble_eq_true rfl)
  rw [lg_entry_eq]
  generalize (lg_sl ([.ref (b + adC 19 a0), .int a1, .ref (b + adC 21 a2)]) ++ List.replicate (4 - (lg_sl ([.ref (b + adC 19 a0), .int a1, .ref (b + adC 21 a2)])).length) Slot.unset).toArray = ls at hl ⊢
  have hl : lv_has ls 4 [(0, .ref (b + adC 19 a0)), (1, .int a1), (2, .ref (b + adC 21 a2))] := hl
  show W p l e rm_X2_add s m _ below meth c s.heap [] 0 0 (MQ below (PvC D cy b z tx k) _ s 0 0 (gA b 709 z)) _
  unfold F_X2_add at h
  refine lv_aload_n hx hb dX2_add_0 rfl (lv_at hl 0 rfl) ?_
  refine gC_19_1 C0 hR av0 tbs_wsX20 mC3_1_136 dX2_add_1 ?_
  refine lv_aload_n hx hb dX2_add_4 rfl (lv_at hl 0 rfl) ?_
  refine gC_19_2 C0 hR av0 tbs_wsX20 mC3_1_137 dX2_add_5 ?_
  refine lv_iadd hx hb dX2_add_8 ?_
  refine lv_bipush (v := 60) hx hb dX2_add_9 (by decide) ?_
  refine lv_irem hx hb dX2_add_11 (by decide) ?_
  refine lv_iconst (v := 5) hx hb dX2_add_12 (by decide) ?_
  refine lv_imul hx hb dX2_add_13 ?_
  refine lv_topi (fun x1 ex1 => ?_)
  have h := h x1 ex1
  refine lv_istore_n (lv' := [(3, .int x1), (0, .ref (b + adC 19 a0)), (1, .int a1), (2, .ref (b + adC 21 a2))]) hx hb dX2_add_14 rfl hl (by decide) rfl (fun ls hl => ?_)
  refine lv_aload_n hx hb dX2_add_15 rfl (lv_at hl 1 rfl) ?_
  refine gC_19_0 C0 hR av0 tbs_wsX20 mC3_1_135 dX2_add_16 ?_
  have w2 : a0 < 3 := by omega
  refine lv_iload_n hx hb dX2_add_19 rfl (lv_at hl 0 rfl) ?_
  refine lv_iconst (v := 0) hx hb dX2_add_20 (by decide) ?_
  refine lv_iadd hx hb dX2_add_21 ?_
  refine lv_iload_n hx hb dX2_add_22 rfl (lv_at hl 2 rfl) ?_
  obtain ⟨j3, hj3, ej3, h⟩ := h
  refine sC_20 C0 hR hS w2 hj3 ej3 dX2_add_23 (fun S4 eS4 H locs hR hS => ?_)
  have h := h S4 eS4
  refine lv_aload_n hx hb dX2_add_24 rfl (lv_at hl 1 rfl) ?_
  refine gC_19_0 C0 hR av0 tbs_wsX20 mC3_1_135 dX2_add_25 ?_
  have w5 : a0 < 3 := by omega
  refine lv_iload_n hx hb dX2_add_28 rfl (lv_at hl 0 rfl) ?_
  refine lv_iconst (v := 1) hx hb dX2_add_29 (by decide) ?_
  refine lv_iadd hx hb dX2_add_30 ?_
  refine lv_aload_n hx hb dX2_add_31 rfl (lv_at hl 3 rfl) ?_
  refine gCn_21_6 C0 hR av2 tbs_wsX10 mC3_1_229 hT dX2_add_32 ?_
  obtain ⟨j6, hj6, ej6, h⟩ := h
  refine sC_20 C0 hR hS w5 hj6 ej6 dX2_add_35 (fun S7 eS7 H locs hR hS => ?_)
  have h := h S7 eS7
  refine lv_aload_n hx hb dX2_add_36 rfl (lv_at hl 1 rfl) ?_
  refine gC_19_0 C0 hR av0 tbs_wsX20 mC3_1_135 dX2_add_37 ?_
  have w8 : a0 < 3 := by omega
  refine lv_iload_n hx hb dX2_add_40 rfl (lv_at hl 0 rfl) ?_
  refine lv_iconst (v := 2) hx hb dX2_add_41 (by decide) ?_
  refine lv_iadd hx hb dX2_add_42 ?_
  refine lv_aload_n hx hb dX2_add_43 rfl (lv_at hl 3 rfl) ?_
  refine gCn_21_1 C0 hR av2 tbs_wsX10 mC3_1_216 hT dX2_add_44 ?_
  have w9 : (6 * a2 + 1) < 432 := by omega
  refine gCn_22_0 C0 hR w9 tbs_wsX90 mC3_1_160 hT dX2_add_47 ?_
  obtain ⟨j10, hj10, ej10, h⟩ := h
  refine sC_20 C0 hR hS w8 hj10 ej10 dX2_add_50 (fun S11 eS11 H locs hR hS => ?_)
  have h := h S11 eS11
  refine lv_aload_n hx hb dX2_add_51 rfl (lv_at hl 1 rfl) ?_
  refine gC_19_0 C0 hR av0 tbs_wsX20 mC3_1_135 dX2_add_52 ?_
  have w12 : a0 < 3 := by omega
  refine lv_iload_n hx hb dX2_add_55 rfl (lv_at hl 0 rfl) ?_
  refine lv_iconst (v := 3) hx hb dX2_add_56 (by decide) ?_
  refine lv_iadd hx hb dX2_add_57 ?_
  refine lv_aload_n hx hb dX2_add_58 rfl (lv_at hl 3 rfl) ?_
  refine gCn_21_1 C0 hR av2 tbs_wsX10 mC3_1_216 hT dX2_add_59 ?_
  have w13 : (6 * a2 + 1) < 432 := by omega
  refine gCn_22_5 C0 hR w13 tbs_wsX90 mC3_1_179 hT dX2_add_62 ?_
  obtain ⟨j14, hj14, ej14, h⟩ := h
  refine sC_20 C0 hR hS w12 hj14 ej14 dX2_add_65 (fun S15 eS15 H locs hR hS => ?_)
  have h := h S15 eS15
  refine lv_aload_n hx hb dX2_add_66 rfl (lv_at hl 1 rfl) ?_
  refine gC_19_0 C0 hR av0 tbs_wsX20 mC3_1_135 dX2_add_67 ?_
  have w16 : a0 < 3 := by omega
  refine lv_iload_n hx hb dX2_add_70 rfl (lv_at hl 0 rfl) ?_
  refine lv_iconst (v := 4) hx hb dX2_add_71 (by decide) ?_
  refine lv_iadd hx hb dX2_add_72 ?_
  refine lv_aload_n hx hb dX2_add_73 rfl (lv_at hl 3 rfl) ?_
  refine gCn_21_1 C0 hR av2 tbs_wsX10 mC3_1_216 hT dX2_add_74 ?_
  have w17 : (6 * a2 + 1) < 432 := by omega
  refine gCn_22_6 C0 hR w17 tbs_wsX90 mC3_1_183 hT dX2_add_77 ?_
  obtain ⟨j18, hj18, ej18, h⟩ := h
  refine sC_20 C0 hR hS w16 hj18 ej18 dX2_add_80 (fun S19 eS19 H locs hR hS => ?_)
  have h := h S19 eS19
  refine lv_aload_n hx hb dX2_add_81 rfl (lv_at hl 1 rfl) ?_
  refine gC_19_2 C0 hR av0 tbs_wsX20 mC3_1_137 dX2_add_82 ?_
  refine lv_bipush (v := 60) hx hb dX2_add_85 (by decide) ?_
  refine lv_icmp_ge (tgt := 103) hx hb dX2_add_87 (by decide) (fun c20 => ?_) (fun c20 => ?_)
  · have h := h.1 c20
    refine lv_aload_n hx hb dX2_add_103 rfl (lv_at hl 1 rfl) ?_
    refine lv_aload_n hx hb dX2_add_104 rfl (lv_at hl 1 rfl) ?_
    refine gC_19_1 C0 hR av0 tbs_wsX20 mC3_1_136 dX2_add_105 ?_
    refine lv_iconst (v := 1) hx hb dX2_add_108 (by decide) ?_
    refine lv_iadd hx hb dX2_add_109 ?_
    refine lv_bipush (v := 60) hx hb dX2_add_110 (by decide) ?_
    refine lv_irem hx hb dX2_add_112 (by decide) ?_
    refine pC_19_1 C0 hR hS av0 tbs_wsX20 mC3_1_136 dX2_add_113 (fun S21 eS21 H locs hR hS => ?_)
    have h := h S21 eS21
    exact rtC_v C0 hr hlk hR hS h dX2_add_116
  · have h := h.2 c20
    refine lv_aload_n hx hb dX2_add_90 rfl (lv_at hl 1 rfl) ?_
    refine lv_dup hx hb dX2_add_91 rfl ?_
    refine gC_19_2 C0 hR av0 tbs_wsX20 mC3_1_137 dX2_add_92 ?_
    refine lv_iconst (v := 1) hx hb dX2_add_95 (by decide) ?_
    refine lv_iadd hx hb dX2_add_96 ?_
    refine pC_19_2 C0 hR hS av0 tbs_wsX20 mC3_1_137 dX2_add_97 (fun S22 eS22 H locs hR hS => ?_)
    have h := h S22 eS22
    refine lv_goto (tgt := 116) hx hb dX2_add_100 (by decide) ?_
    exact rtC_v C0 hr hlk hR hS h dX2_add_116

def rm_X1_store : Room := { frames := 1, cells := 0, slots := 0, locals := 21 }
def F_X1_store (a0 : Nat) (S : sSt) (k : sSt → Prop) : Prop := F_X9_copyFrom (6 * a0) (6 * a0 + 1) S (fun S4 => ∀ S5, S5 = uI S4 21 a0 5 1 → ∀ S6, S6 = uI S5 21 a0 4 (-1) → k S6)
set_option maxHeartbeats 4000000 in
set_option maxRecDepth 100000 in
theorem c_X1_store (l : Launch) {D : va_G} {cy : Nat → ClassId} {b z : Nat} {tx : TX} {a0 : Nat} {S : sSt} {k : sSt → Prop} (av0 : a0 < 72) (h : F_X1_store a0 S k) : Met l yX1_store (Cond.code yX1_store cX1_store 1 none :: TB) rm_X1_store (va_Pc [.ref (b + adC 21 a0)] (fun U => RelC D cy b z tx S U U.heap ∧ TxR tx U)) (PvC D cy b z tx k) 0 0 (gA b 709 z) := by
  refine Met.ofW (cc := cX1_store) (maxL := 1) (ret := none) (by decide) rfl ?_
  intro p e s m args below meth c s₁ B hml hv
  obtain ⟨rfl, hR, hT⟩ := hv
  have C0 : CallFix p m c cX1_store 1 s _ TB RX1 := ⟨B.exec, B.bytes, hml, findClass_of_methodNamed B.named, fun w hw => atoms_spec B.pre w (List.mem_cons_of_mem _ hw)⟩
  have hr := B.returns
  have hlk := B.notSynchronized
  have hx := C0.1
  have hb := C0.2.1
  have hS : va_S (gA b 709 z) s.heap s.heap [] := va_S.rf
  have hl := lv_entry ([.ref (b + adC 21 a0)]) (n := 1) (Nat.le_of_ble_eq_true rfl)
  rw [lg_entry_eq]
  generalize (lg_sl ([.ref (b + adC 21 a0)]) ++ List.replicate (1 - (lg_sl ([.ref (b + adC 21 a0)])).length) Slot.unset).toArray = ls at hl ⊢
  have hl : lv_has ls 1 [(0, .ref (b + adC 21 a0))] := hl
  show W p l e rm_X1_store s m _ below meth c s.heap [] 0 0 (MQ below (PvC D cy b z tx k) _ s 0 0 (gA b 709 z)) _
  unfold F_X1_store at h
  refine lv_aload_n hx hb dX1_store_0 rfl (lv_at hl 0 rfl) ?_
  refine gC_21_0 C0 hR av0 tbs_wsX10 mC3_1_210 dX1_store_1 ?_
  have w1 : (6 * a0) < 432 := by omega
  refine lv_aload_n hx hb dX1_store_4 rfl (lv_at hl 0 rfl) ?_
  refine gC_21_1 C0 hR av0 tbs_wsX10 mC3_1_215 dX1_store_5 ?_
  have w2 : (6 * a0 + 1) < 432 := by omega
  refine qC_Vv (As := [.ref (b + adC 22 (6 * a0 + 1))]) (rest := []) C0 (c_X9_copyFrom l w1 w2 h) (cwV 1 C0.2.2.2.2 (tbV mC3_3_61 ⟨mC3_3_62, mC3_3_63, mC3_1_8, mC3_3_64⟩) rfl rfl rfl (by decide +kernel) ⟨Nat.le_of_ble_eq_true rfl, Nat.le_of_ble_eq_true rfl⟩) (rcC_22 hR w1) hR hT hS rfl hl.1 rfl (Nat.le_of_ble_eq_true rfl) dX1_store_8 ⟨Nat.zero_le _, Nat.zero_le _⟩ (fun S4 H locs h hR hS => ?_)
  refine lv_aload_n hx hb dX1_store_11 rfl (lv_at hl 0 rfl) ?_
  refine lv_iconst (v := 1) hx hb dX1_store_12 (by decide) ?_
  refine pC_21_5 C0 hR hS av0 tbs_wsX10 mC3_1_223 (by decide) dX1_store_13 (fun S5 eS5 H locs hR hS => ?_)
  have h := h S5 eS5
  refine lv_aload_n hx hb dX1_store_16 rfl (lv_at hl 0 rfl) ?_
  refine lv_iconst (v := (-1)) hx hb dX1_store_17 (by decide) ?_
  refine pC_21_4 C0 hR hS av0 tbs_wsX10 mC3_1_220 dX1_store_18 (fun S6 eS6 H locs hR hS => ?_)
  have h := h S6 eS6
  exact rtC_v C0 hr hlk hR hS h dX1_store_21

def rm_X6_commitAll : Room := { frames := 2, cells := 0, slots := 0, locals := 41 }
def B_X6_commitAll_54 (kk4 : Nat → Int32 → Int32 → Int32 → sSt → Prop) (a0 : Nat) (a1 : Int32) (a2 : Int32) (a3 : Int32) (S : sSt) (k : Int32 → sSt → Prop) : Prop := ∀ x13 : Int32, x13 = a3 + 1 → kk4 a0 a1 a2 x13 S
set_option maxHeartbeats 4000000 in
set_option maxRecDepth 100000 in
theorem Bw_X6_commitAll_54 {p : Program} {l : Launch} {e : Env} {s : State} {m : MethodId} {args : Array Value} {below : List Frame} {meth : Method} {c : Code} {D : va_G} {cy : Nat → ClassId} {b z : Nat} {tx : TX} (C0 : CallFix p m c cX6_commitAll 4 s args TB RX6) (hr : meth.sig.returnType = (some .int)) (hlk : meth.locks = false) (hT : TxR tx s) {k : Int32 → sSt → Prop} {kk4 : Nat → Int32 → Int32 → Int32 → sSt → Prop} (ih4 : ∀ (a0 : Nat) (a1 : Int32) (a2 : Int32) (a3 : Int32) (S : sSt) (H : Heap) (locs : List Loc) (ls : Array Slot) (av0 : a0 < 3), kk4 a0 a1 a2 a3 S → RelC D cy b z tx S s H → va_S (gA b 709 z) s.heap H locs → lv_has ls 4 [(0, .ref (b + adC 13 a0)), (1, .int a1), (2, .int a2), (3, .int a3)] → W p l e rm_X6_commitAll s m args below meth c H locs 0 0 (MQ below (PiC D cy b z tx k) args s 0 0 (gA b 709 z)) (F0 m 4 ls [])) : ∀ (a0 : Nat) (a1 : Int32) (a2 : Int32) (a3 : Int32) (S : sSt) (H : Heap) (locs : List Loc) (ls : Array Slot) (av0 : a0 < 3), B_X6_commitAll_54 kk4 a0 a1 a2 a3 S k → RelC D cy b z tx S s H → va_S (gA b 709 z) s.heap H locs → lv_has ls 4 [(0, .ref (b + adC 13 a0)), (1, .int a1), (2, .int a2), (3, .int a3)] → W p l e rm_X6_commitAll s m args below meth c H locs 0 0 (MQ below (PiC D cy b z tx k) args s 0 0 (gA b 709 z)) (F0 m 54 ls []) := by
  intro a0 a1 a2 a3 S H locs ls av0 h hR hS hl
  have hx := C0.1
  have hb := C0.2.1
  unfold B_X6_commitAll_54 at h
  obtain ⟨x13, ex13⟩ : ∃ x13 : Int32, x13 = a3 + 1 := ⟨_, rfl⟩
  have h := h x13 ex13
  refine w_iinc (v0 := 1) (lv' := [(3, .int x13), (0, .ref (b + adC 13 a0)), (1, .int a1), (2, .int a2)]) C0 dX6_commitAll_54 hl (k := 3) rfl (by decide) (by decide) x13 ex13 rfl (fun ls hl => ?_)
  refine lv_goto (tgt := 4) hx hb dX6_commitAll_57 (by decide) ?_
  exact ih4 a0 a1 a2 x13 S _ _ _ av0 h hR hS (lv_sub hl [1, 2, 3, 0] rfl)
def Bb_X6_commitAll_4 (kk4 : Nat → Int32 → Int32 → Int32 → sSt → Prop) (a0 : Nat) (a1 : Int32) (a2 : Int32) (a3 : Int32) (S : sSt) (k : Int32 → sSt → Prop) : Prop := (((S.1 13 a0 6) ≤ a3 → ix a1 4 (fun j3 => F_X5_close (4 * a0 + j3) S (fun S6 => k a2 S6))) ∧ (¬ (S.1 13 a0 6) ≤ a3 → ix a3 24 (fun j8 => F_X1_isLockedBy (S.2 14 a0 j8) a1 S (fun r10 S11 => ((r10 = 0 → B_X6_commitAll_54 kk4 a0 a1 a2 a3 S11 k) ∧ (¬ r10 = 0 → F_X2_add a0 (S11.1 13 a0 10) (S11.2 14 a0 j8) S11 (fun S18 => F_X1_store (S18.2 14 a0 j8) S18 (fun S22 => ∀ x23 : Int32, x23 = a2 + 1 → B_X6_commitAll_54 kk4 a0 a1 x23 a3 S22 k))))))))
set_option maxHeartbeats 4000000 in
set_option maxRecDepth 100000 in
theorem Bbw_X6_commitAll_4 {p : Program} {l : Launch} {e : Env} {s : State} {m : MethodId} {args : Array Value} {below : List Frame} {meth : Method} {c : Code} {D : va_G} {cy : Nat → ClassId} {b z : Nat} {tx : TX} (C0 : CallFix p m c cX6_commitAll 4 s args TB RX6) (hr : meth.sig.returnType = (some .int)) (hlk : meth.locks = false) (hT : TxR tx s) {k : Int32 → sSt → Prop} {kk4 : Nat → Int32 → Int32 → Int32 → sSt → Prop} (ih4 : ∀ (a0 : Nat) (a1 : Int32) (a2 : Int32) (a3 : Int32) (S : sSt) (H : Heap) (locs : List Loc) (ls : Array Slot) (av0 : a0 < 3), kk4 a0 a1 a2 a3 S → RelC D cy b z tx S s H → va_S (gA b 709 z) s.heap H locs → lv_has ls 4 [(0, .ref (b + adC 13 a0)), (1, .int a1), (2, .int a2), (3, .int a3)] → W p l e rm_X6_commitAll s m args below meth c H locs 0 0 (MQ below (PiC D cy b z tx k) args s 0 0 (gA b 709 z)) (F0 m 4 ls [])) : ∀ (a0 : Nat) (a1 : Int32) (a2 : Int32) (a3 : Int32) (S : sSt) (H : Heap) (locs : List Loc) (ls : Array Slot) (av0 : a0 < 3), Bb_X6_commitAll_4 kk4 a0 a1 a2 a3 S k → RelC D cy b z tx S s H → va_S (gA b 709 z) s.heap H locs → lv_has ls 4 [(0, .ref (b + adC 13 a0)), (1, .int a1), (2, .int a2), (3, .int a3)] → W p l e rm_X6_commitAll s m args below meth c H locs 0 0 (MQ below (PiC D cy b z tx k) args s 0 0 (gA b 709 z)) (F0 m 4 ls []) := by
  intro a0 a1 a2 a3 S H locs ls av0 h hR hS hl
  have hx := C0.1
  have hb := C0.2.1
  unfold Bb_X6_commitAll_4 at h
  refine lv_iload_n hx hb dX6_commitAll_4 rfl (lv_at hl 3 rfl) ?_
  refine lv_aload_n hx hb dX6_commitAll_5 rfl (lv_at hl 0 rfl) ?_
  refine gC_13_6 C0 hR av0 tbs_wsX60 mC3_2_146 dX6_commitAll_6 ?_
  refine lv_icmp_ge (tgt := 60) hx hb dX6_commitAll_9 (by decide) (fun c1 => ?_) (fun c1 => ?_)
  · have h := h.1 c1
    refine lv_aload_n hx hb dX6_commitAll_60 rfl (lv_at hl 0 rfl) ?_
    refine gC_13_1 C0 hR av0 tbs_wsX60 mC3_2_129 dX6_commitAll_61 ?_
    have w2 : a0 < 3 := by omega
    refine lv_iload_n hx hb dX6_commitAll_64 rfl (lv_at hl 1 rfl) ?_
    obtain ⟨j3, hj3, ej3, h⟩ := h
    refine lC_15 C0 hR w2 hj3 ej3 dX6_commitAll_65 ?_
    have w4 : (4 * a0 + j3) < 12 := by omega
    refine qC_Vv (As := []) (rest := []) C0 (c_X5_close l w4 h) (cwV 0 C0.2.2.2.2 (tbV mC3_5_43 ⟨mC3_4_9, mC3_4_10, mC3_1_9, mC3_4_11⟩) rfl rfl rfl (by decide +kernel) ⟨Nat.le_of_ble_eq_true rfl, Nat.le_of_ble_eq_true rfl⟩) (rcC_24 hR w4) hR hT hS rfl hl.1 rfl (Nat.le_of_ble_eq_true rfl) dX6_commitAll_66 ⟨Nat.zero_le _, Nat.zero_le _⟩ (fun S6 H locs h hR hS => ?_)
    refine lv_iload_n hx hb dX6_commitAll_69 rfl (lv_at hl 2 rfl) ?_
    exact rtC_i C0 hr hlk hR hS h dX6_commitAll_70
  · have h := h.2 c1
    refine lv_aload_n hx hb dX6_commitAll_12 rfl (lv_at hl 0 rfl) ?_
    refine gC_13_0 C0 hR av0 tbs_wsX60 mC3_2_126 dX6_commitAll_13 ?_
    have w7 : a0 < 3 := by omega
    refine lv_iload_n hx hb dX6_commitAll_16 rfl (lv_at hl 3 rfl) ?_
    obtain ⟨j8, hj8, ej8, h⟩ := h
    refine lC_14 C0 hR w7 hj8 ej8 dX6_commitAll_17 ?_
    have w9 : (S.2 14 a0 j8) < 72 := hR.2.1.1 _ _ w7 hj8
    refine lv_iload_n hx hb dX6_commitAll_18 rfl (lv_at hl 1 rfl) ?_
    refine qC_Vi (As := [.int a1]) (rest := []) C0 (c_X1_isLockedBy l w9 h) (cwV 1 C0.2.2.2.2 (tbV mC3_4_232 ⟨mC3_4_233, mC3_4_234, mC3_1_7, mC3_4_235⟩) rfl rfl rfl (by decide +kernel) ⟨Nat.le_of_ble_eq_true rfl, Nat.le_of_ble_eq_true rfl⟩) (rcC_21 hR w9) hR hT hS rfl hl.1 rfl (Nat.le_of_ble_eq_true rfl) dX6_commitAll_19 ⟨Nat.zero_le _, Nat.zero_le _⟩ (fun r10 S11 H locs h hR hS => ?_)
    refine lv_if_eq (tgt := 54) hx hb dX6_commitAll_22 (by decide) (fun c12 => ?_) (fun c12 => ?_)
    · have h := h.1 c12
      exact Bw_X6_commitAll_54 C0 hr hlk hT ih4 a0 a1 a2 a3 S11 _ _ _ av0 h hR hS (lv_sub hl [0, 1, 2, 3] rfl)
    · have h := h.2 c12
      refine lv_aload_n hx hb dX6_commitAll_25 rfl (lv_at hl 0 rfl) ?_
      refine gC_13_5 C0 hR av0 tbs_wsX60 mC3_2_144 dX6_commitAll_26 ?_
      have w14 : a0 < 3 := by omega
      refine lv_aload_n hx hb dX6_commitAll_29 rfl (lv_at hl 0 rfl) ?_
      refine gC_13_10 C0 hR av0 tbs_wsX60 mC3_2_160 dX6_commitAll_30 ?_
      refine lv_aload_n hx hb dX6_commitAll_33 rfl (lv_at hl 0 rfl) ?_
      refine gC_13_0 C0 hR av0 tbs_wsX60 mC3_2_126 dX6_commitAll_34 ?_
      have w15 : a0 < 3 := by omega
      refine lv_iload_n hx hb dX6_commitAll_37 rfl (lv_at hl 3 rfl) ?_
      refine lC_14 C0 hR w15 hj8 ej8 dX6_commitAll_38 ?_
      have w16 : (S11.2 14 a0 j8) < 72 := hR.2.1.1 _ _ w15 hj8
      refine qC_Vv (As := [.int (S11.1 13 a0 10), .ref (b + adC 21 (S11.2 14 a0 j8))]) (rest := []) C0 (c_X2_add l w14 w16 h) (cwV 2 C0.2.2.2.2 (tbV mC3_5_35 ⟨mC3_5_36, mC3_5_37, mC3_1_6, mC3_5_38⟩) rfl rfl rfl (by decide +kernel) ⟨Nat.le_of_ble_eq_true rfl, Nat.le_of_ble_eq_true rfl⟩) (rcC_19 hR w14) hR hT hS rfl hl.1 rfl (Nat.le_of_ble_eq_true rfl) dX6_commitAll_39 ⟨Nat.zero_le _, Nat.zero_le _⟩ (fun S18 H locs h hR hS => ?_)
      refine lv_aload_n hx hb dX6_commitAll_42 rfl (lv_at hl 0 rfl) ?_
      refine gC_13_0 C0 hR av0 tbs_wsX60 mC3_2_126 dX6_commitAll_43 ?_
      have w19 : a0 < 3 := by omega
      refine lv_iload_n hx hb dX6_commitAll_46 rfl (lv_at hl 3 rfl) ?_
      refine lC_14 C0 hR w19 hj8 ej8 dX6_commitAll_47 ?_
      have w20 : (S18.2 14 a0 j8) < 72 := hR.2.1.1 _ _ w19 hj8
      refine qC_Vv (As := []) (rest := []) C0 (c_X1_store l w20 h) (cwV 0 C0.2.2.2.2 (tbV mC3_5_39 ⟨mC3_5_40, mC3_5_41, mC3_1_7, mC3_5_42⟩) rfl rfl rfl (by decide +kernel) ⟨Nat.le_of_ble_eq_true rfl, Nat.le_of_ble_eq_true rfl⟩) (rcC_21 hR w20) hR hT hS rfl hl.1 rfl (Nat.le_of_ble_eq_true rfl) dX6_commitAll_48 ⟨Nat.zero_le _, Nat.zero_le _⟩ (fun S22 H locs h hR hS => ?_)
      obtain ⟨x23, ex23⟩ : ∃ x23 : Int32, x23 = a2 + 1 := ⟨_, rfl⟩
      have h := h x23 ex23
      refine w_iinc (v0 := 1) (lv' := [(2, .int x23), (0, .ref (b + adC 13 a0)), (1, .int a1), (3, .int a3)]) C0 dX6_commitAll_51 hl (k := 2) rfl (by decide) (by decide) x23 ex23 rfl (fun ls hl => ?_)
      exact Bw_X6_commitAll_54 C0 hr hlk hT ih4 a0 a1 x23 a3 S22 _ _ _ av0 h hR hS (lv_sub hl [1, 2, 0, 3] rfl)
def B_X6_commitAll_4 (n9 : Nat) (a0 : Nat) (a1 : Int32) (a2 : Int32) (a3 : Int32) (S : sSt) (k : Int32 → sSt → Prop) : Prop := (Nat.rec (motive := fun _ => Nat → Int32 → Int32 → Int32 → sSt → Prop) (fun _ _ _ _ _ => False) (fun _ r9 => fun a0 a1 a2 a3 S => Bb_X6_commitAll_4 r9 a0 a1 a2 a3 S k) n9 : Nat → Int32 → Int32 → Int32 → sSt → Prop) a0 a1 a2 a3 S
theorem B_X6_commitAll_4_s (n9 : Nat) (a0 : Nat) (a1 : Int32) (a2 : Int32) (a3 : Int32) (S : sSt) (k : Int32 → sSt → Prop) : B_X6_commitAll_4 (n9 + 1) a0 a1 a2 a3 S k = Bb_X6_commitAll_4 (fun a0 a1 a2 a3 S => B_X6_commitAll_4 n9 a0 a1 a2 a3 S k) a0 a1 a2 a3 S k := rfl
set_option maxHeartbeats 4000000 in
set_option maxRecDepth 100000 in
theorem Bw_X6_commitAll_4 {p : Program} {l : Launch} {e : Env} {s : State} {m : MethodId} {args : Array Value} {below : List Frame} {meth : Method} {c : Code} {D : va_G} {cy : Nat → ClassId} {b z : Nat} {tx : TX} (C0 : CallFix p m c cX6_commitAll 4 s args TB RX6) (hr : meth.sig.returnType = (some .int)) (hlk : meth.locks = false) (hT : TxR tx s) {k : Int32 → sSt → Prop} : ∀ (n9 : Nat), ∀ (a0 : Nat) (a1 : Int32) (a2 : Int32) (a3 : Int32) (S : sSt) (H : Heap) (locs : List Loc) (ls : Array Slot) (av0 : a0 < 3), B_X6_commitAll_4 n9 a0 a1 a2 a3 S k → RelC D cy b z tx S s H → va_S (gA b 709 z) s.heap H locs → lv_has ls 4 [(0, .ref (b + adC 13 a0)), (1, .int a1), (2, .int a2), (3, .int a3)] → W p l e rm_X6_commitAll s m args below meth c H locs 0 0 (MQ below (PiC D cy b z tx k) args s 0 0 (gA b 709 z)) (F0 m 4 ls []) := by
  intro n9
  induction n9 with
  | zero => intro a0 a1 a2 a3 S H locs ls av0 h; exact h.elim
  | succ n9 ih =>
    intro a0 a1 a2 a3 S H locs ls av0 h hR hS hl
    exact Bbw_X6_commitAll_4 C0 hr hlk hT ih a0 a1 a2 a3 S H locs ls av0 h hR hS hl
def F_X6_commitAll (a0 : Nat) (a1 : Int32) (S : sSt) (k : Int32 → sSt → Prop) : Prop := B_X6_commitAll_4 fuel a0 a1 0 0 S k
set_option maxHeartbeats 4000000 in
set_option maxRecDepth 100000 in
theorem c_X6_commitAll (l : Launch) {D : va_G} {cy : Nat → ClassId} {b z : Nat} {tx : TX} {a0 : Nat} {a1 : Int32} {S : sSt} {k : Int32 → sSt → Prop} (av0 : a0 < 3) (h : F_X6_commitAll a0 a1 S k) : Met l yX6_commitAll (Cond.code yX6_commitAll cX6_commitAll 4 (some .int) :: TB) rm_X6_commitAll (va_Pc [.ref (b + adC 13 a0), .int a1] (fun U => RelC D cy b z tx S U U.heap ∧ TxR tx U)) (PiC D cy b z tx k) 0 0 (gA b 709 z) := by
  refine Met.ofW (cc := cX6_commitAll) (maxL := 4) (ret := (some .int)) (by decide) rfl ?_
  intro p e s m args below meth c s₁ B hml hv
  obtain ⟨rfl, hR, hT⟩ := hv
  have C0 : CallFix p m c cX6_commitAll 4 s _ TB RX6 := ⟨B.exec, B.bytes, hml, findClass_of_methodNamed B.named, fun w hw => atoms_spec B.pre w (List.mem_cons_of_mem _ hw)⟩
  have hr := B.returns
  have hlk := B.notSynchronized
  have hx := C0.1
  have hb := C0.2.1
  have hS : va_S (gA b 709 z) s.heap s.heap [] := va_S.rf
  have hl := lv_entry ([.ref (b + adC 13 a0), .int a1]) (n := 4) (Nat.le_of_ble_eq_true rfl)
  rw [lg_entry_eq]
  generalize (lg_sl ([.ref (b + adC 13 a0), .int a1]) ++ List.replicate (4 - (lg_sl ([.ref (b + adC 13 a0), .int a1])).length) Slot.unset).toArray = ls at hl ⊢
  have hl : lv_has ls 4 [(0, .ref (b + adC 13 a0)), (1, .int a1)] := hl
  show W p l e rm_X6_commitAll s m _ below meth c s.heap [] 0 0 (MQ below (PiC D cy b z tx k) _ s 0 0 (gA b 709 z)) _
  unfold F_X6_commitAll at h
  refine lv_iconst (v := 0) hx hb dX6_commitAll_0 (by decide) ?_
  refine lv_istore_n (lv' := [(2, .int 0), (0, .ref (b + adC 13 a0)), (1, .int a1)]) hx hb dX6_commitAll_1 rfl hl (by decide) rfl (fun ls hl => ?_)
  refine lv_iconst (v := 0) hx hb dX6_commitAll_2 (by decide) ?_
  refine lv_istore_n (lv' := [(3, .int 0), (2, .int 0), (0, .ref (b + adC 13 a0)), (1, .int a1)]) hx hb dX6_commitAll_3 rfl hl (by decide) rfl (fun ls hl => ?_)
  exact Bw_X6_commitAll_4 C0 hr hlk hT fuel a0 a1 0 0 S _ _ _ av0 h hR hS (lv_sub hl [2, 3, 1, 0] rfl)
