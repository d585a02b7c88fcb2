theorem mM1_7_77 : Cond.fieldLink RX12 3 "ClaimTableModel" "thrown" "I" ∈ TB := tbT_7 _ (List.mem_of_getElem? (i := 77) rfl) rfl
theorem mM1_7_86 : Cond.fieldLink RX12 77 "ClaimTableModel" "taped" "I" ∈ TB := tbT_7 _ (List.mem_of_getElem? (i := 86) rfl) rfl
theorem mM1_7_91 : Cond.fieldLink RX12 36 "ClaimTableModel" "five" "[I" ∈ TB := tbT_7 _ (List.mem_of_getElem? (i := 91) rfl) rfl
theorem mM1_7_85 : Cond.fieldLink RX12 29 "ClaimTableModel" "tape" "[B" ∈ TB := tbT_7 _ (List.mem_of_getElem? (i := 85) rfl) rfl
theorem mM1_7_87 : Cond.fieldLink RX12 80 "ClaimTableModel" "point" "I" ∈ TB := tbT_7 _ (List.mem_of_getElem? (i := 87) rfl) rfl
theorem mM1_7_88 : Cond.fieldLink RX12 83 "ClaimTableModel" "end" "I" ∈ TB := tbT_7 _ (List.mem_of_getElem? (i := 88) rfl) rfl
theorem mM1_7_175 : Cond.methodLink RX12 86 yX12_isAt ∈ TB := tbT_7 _ (List.mem_of_getElem? (i := 175) rfl) rfl
theorem mM1_7_178 : Cond.code yX12_isAt cX12_isAt 3 (some .boolean) ∈ TB := tbT_7 _ (List.mem_of_getElem? (i := 178) rfl) rfl
theorem mM1_7_177 : Cond.instanceMethod yX12_isAt ∈ TB := tbT_7 _ (List.mem_of_getElem? (i := 177) rfl) rfl
theorem mpM1_2_13 : Cond.selects RX12 yX12_isAt yX12_isAt ∈ TB := tbP_2 (yX12_isAt, 19) (List.mem_of_getElem? (i := 13) rfl)
theorem mM1_1_11 : Cond.initialized RX12 ∈ TB := tbT_1 _ (List.mem_of_getElem? (i := 11) rfl) rfl
theorem mM1_7_89 : Cond.fieldLink RX12 90 "ClaimTableModel" "begin" "I" ∈ TB := tbT_7 _ (List.mem_of_getElem? (i := 89) rfl) rfl
theorem mM1_7_171 : Cond.methodLink RX12 93 yX12_blanks ∈ TB := tbT_7 _ (List.mem_of_getElem? (i := 171) rfl) rfl
theorem mM1_7_174 : Cond.code yX12_blanks cX12_blanks 1 none ∈ TB := tbT_7 _ (List.mem_of_getElem? (i := 174) rfl) rfl
theorem mM1_7_173 : Cond.instanceMethod yX12_blanks ∈ TB := tbT_7 _ (List.mem_of_getElem? (i := 173) rfl) rfl
theorem mpM1_2_12 : Cond.selects RX12 yX12_blanks yX12_blanks ∈ TB := tbP_2 (yX12_blanks, 19) (List.mem_of_getElem? (i := 12) rfl)
theorem mM1_7_192 : Cond.methodLink RX12 96 yJ0_length_8abf5 ∈ TB := tbT_7 _ (List.mem_of_getElem? (i := 192) rfl) rfl
theorem mM1_3_146 : Cond.instanceMethod yJ0_length_8abf5 ∈ TB := tbT_3 _ (List.mem_of_getElem? (i := 146) rfl) rfl
theorem mM1_3_147 : Cond.selects RJ0 yJ0_length_8abf5 yJ0_length_8abf5 ∈ TB := tbT_3 _ (List.mem_of_getElem? (i := 147) rfl) rfl
theorem mM1_1_14 : Cond.initialized RJ0 ∈ TB := tbT_1 _ (List.mem_of_getElem? (i := 14) rfl) rfl
theorem mM1_3_148 : Cond.code yJ0_length_8abf5 cJ0_length_8abf5 1 (some .int) ∈ TB := tbT_3 _ (List.mem_of_getElem? (i := 148) rfl) rfl
theorem mM1_7_193 : Cond.methodLink RX12 102 yJ0_charAt_5068e ∈ TB := tbT_7 _ (List.mem_of_getElem? (i := 193) rfl) rfl
theorem mM1_3_160 : Cond.instanceMethod yJ0_charAt_5068e ∈ TB := tbT_3 _ (List.mem_of_getElem? (i := 160) rfl) rfl
theorem mM1_3_161 : Cond.selects RJ0 yJ0_charAt_5068e yJ0_charAt_5068e ∈ TB := tbT_3 _ (List.mem_of_getElem? (i := 161) rfl) rfl
theorem mM1_3_162 : Cond.code yJ0_charAt_5068e cJ0_charAt_5068e 2 (some .char) ∈ TB := tbT_3 _ (List.mem_of_getElem? (i := 162) rfl) rfl
theorem mM1_7_179 : Cond.methodLink RX12 106 yX12_letters ∈ TB := tbT_7 _ (List.mem_of_getElem? (i := 179) rfl) rfl
theorem mM1_7_182 : Cond.code yX12_letters cX12_letters 1 none ∈ TB := tbT_7 _ (List.mem_of_getElem? (i := 182) rfl) rfl
theorem mM1_7_181 : Cond.instanceMethod yX12_letters ∈ TB := tbT_7 _ (List.mem_of_getElem? (i := 181) rfl) rfl
theorem mpM1_2_14 : Cond.selects RX12 yX12_letters yX12_letters ∈ TB := tbP_2 (yX12_letters, 19) (List.mem_of_getElem? (i := 14) rfl)
theorem mM1_7_188 : Cond.methodLink RX12 109 yX12_isWord ∈ TB := tbT_7 _ (List.mem_of_getElem? (i := 188) rfl) rfl
theorem mM1_7_191 : Cond.code yX12_isWord cX12_isWord 4 (some .boolean) ∈ TB := tbT_7 _ (List.mem_of_getElem? (i := 191) rfl) rfl
theorem mM1_7_190 : Cond.instanceMethod yX12_isWord ∈ TB := tbT_7 _ (List.mem_of_getElem? (i := 190) rfl) rfl
theorem mpM1_3_0 : Cond.selects RX12 yX12_isWord yX12_isWord ∈ TB := tbP_3 (yX12_isWord, 19) (List.mem_of_getElem? (i := 0) rfl)
theorem mM1_7_211 : Cond.methodLink RX12 113 yX12_number ∈ TB := tbT_7 _ (List.mem_of_getElem? (i := 211) rfl) rfl
theorem mM1_7_214 : Cond.code yX12_number cX12_number 4 (some .int) ∈ TB := tbT_7 _ (List.mem_of_getElem? (i := 214) rfl) rfl
theorem mM1_7_213 : Cond.instanceMethod yX12_number ∈ TB := tbT_7 _ (List.mem_of_getElem? (i := 213) rfl) rfl
theorem mpM1_3_5 : Cond.selects RX12 yX12_number yX12_number ∈ TB := tbP_3 (yX12_number, 19) (List.mem_of_getElem? (i := 5) rfl)
theorem mM1_7_90 : Cond.fieldLink RX12 33 "ClaimTableModel" "faultAt" "I" ∈ TB := tbT_7 _ (List.mem_of_getElem? (i := 90) rfl) rfl
theorem mM1_7_78 : Cond.fieldLink RX12 116 "ClaimTableModel" "why" "I" ∈ TB := tbT_7 _ (List.mem_of_getElem? (i := 78) rfl) rfl
theorem mM1_7_79 : Cond.fieldLink RX12 13 "ClaimTableModel" "world" "[I" ∈ TB := tbT_7 _ (List.mem_of_getElem? (i := 79) rfl) rfl
theorem mM1_7_198 : Cond.methodLink RX12 119 yX12_jobsLying ∈ TB := tbT_7 _ (List.mem_of_getElem? (i := 198) rfl) rfl
theorem mM1_7_201 : Cond.code yX12_jobsLying cX12_jobsLying 3 (some .int) ∈ TB := tbT_7 _ (List.mem_of_getElem? (i := 201) rfl) rfl
theorem mM1_7_200 : Cond.instanceMethod yX12_jobsLying ∈ TB := tbT_7 _ (List.mem_of_getElem? (i := 200) rfl) rfl
theorem mpM1_3_2 : Cond.selects RX12 yX12_jobsLying yX12_jobsLying ∈ TB := tbP_3 (yX12_jobsLying, 19) (List.mem_of_getElem? (i := 2) rfl)
theorem mM1_7_207 : Cond.methodLink RX12 124 yX12_behind ∈ TB := tbT_7 _ (List.mem_of_getElem? (i := 207) rfl) rfl
theorem mM1_7_210 : Cond.code yX12_behind cX12_behind 4 (some .int) ∈ TB := tbT_7 _ (List.mem_of_getElem? (i := 210) rfl) rfl
theorem mM1_7_209 : Cond.instanceMethod yX12_behind ∈ TB := tbT_7 _ (List.mem_of_getElem? (i := 209) rfl) rfl
theorem mpM1_3_4 : Cond.selects RX12 yX12_behind yX12_behind ∈ TB := tbP_3 (yX12_behind, 19) (List.mem_of_getElem? (i := 4) rfl)
theorem mM1_7_218 : Cond.methodLink RX12 133 yX12_passes ∈ TB := tbT_7 _ (List.mem_of_getElem? (i := 218) rfl) rfl
theorem mM1_7_221 : Cond.code yX12_passes cX12_passes 2 (some .boolean) ∈ TB := tbT_7 _ (List.mem_of_getElem? (i := 221) rfl) rfl
theorem mM1_7_220 : Cond.instanceMethod yX12_passes ∈ TB := tbT_7 _ (List.mem_of_getElem? (i := 220) rfl) rfl
theorem mpM1_3_6 : Cond.selects RX12 yX12_passes yX12_passes ∈ TB := tbP_3 (yX12_passes, 19) (List.mem_of_getElem? (i := 6) rfl)
theorem mM1_7_222 : Cond.methodLink RX12 136 yX12_comes ∈ TB := tbT_7 _ (List.mem_of_getElem? (i := 222) rfl) rfl
theorem mM1_7_225 : Cond.code yX12_comes cX12_comes 9 (some .int) ∈ TB := tbT_7 _ (List.mem_of_getElem? (i := 225) rfl) rfl
theorem mM1_7_224 : Cond.instanceMethod yX12_comes ∈ TB := tbT_7 _ (List.mem_of_getElem? (i := 224) rfl) rfl
theorem mpM1_3_7 : Cond.selects RX12 yX12_comes yX12_comes ∈ TB := tbP_3 (yX12_comes, 19) (List.mem_of_getElem? (i := 7) rfl)
theorem mM1_7_233 : Cond.methodLink RX12 63 yX12_sessionAt ∈ TB := tbT_7 _ (List.mem_of_getElem? (i := 233) rfl) rfl
theorem mM1_7_235 : Cond.code yX12_sessionAt cX12_sessionAt 2 (some .int) ∈ TB := tbT_7 _ (List.mem_of_getElem? (i := 235) rfl) rfl
theorem mM1_7_234 : Cond.static yX12_sessionAt ∈ TB := tbT_7 _ (List.mem_of_getElem? (i := 234) rfl) rfl
def rm_X12_feed : Room := { frames := 0, cells := 0, slots := 0, locals := 0 }
def Bb_X12_feed_60 (kk60 : Int32 → sSt → Prop) (a6 : Int32) (S : sSt) (k : Int32 → sSt → Prop) : Prop := ((20 ≤ a6 → ∀ S9, S9 = uI S 0 0 9 ((S.1 0 0 9) + 20) → k (S9.1 0 0 9) S9) ∧ (¬ 20 ≤ a6 → ix (a6 / 4) 5 (fun j10 => ix ((S.1 0 0 9) + a6) 400 (fun j11 => ∀ S12, S12 = uI S 6 0 j11 (vp_nar .byte ((S.1 7 0 j10) >>> ((24 - (8 * (a6 - a6 / 4 * 4))) &&& 31)).toInt8.toInt32) → ∀ x13 : Int32, x13 = a6 + 1 → kk60 x13 S12))))
set_option maxHeartbeats 4000000 in
set_option maxRecDepth 100000 in
theorem Bbw_X12_feed_60 {p : Program} {l : Launch} {e : Env} {s : State} {m : MethodId} {args : Array Value} {below : List Frame} {meth : Method} {c : Code} {D : va_G} {cy : Nat → ClassId} {b z : Nat} {tx : TX} (C0 : CallFix p m c cX12_feed 7 s args TB RX12) (hr : meth.sig.returnType = (some .int)) (hlk : meth.locks = false) (hT : TxR tx s) {k : Int32 → sSt → Prop} {kk60 : Int32 → sSt → Prop} (ih60 : ∀ (a6 : Int32) (S : sSt) (H : Heap) (locs : List Loc) (ls : Array Slot) , kk60 a6 S → RelM D cy b z tx S s H → va_S (gA b 12 z) s.heap H locs → lv_has ls 7 [(0, .ref (b + adM 0 0)), (6, .int a6)] → W p l e rm_X12_feed s m args below meth c H locs 0 0 (MQ below (PiM D cy b z tx k) args s 0 0 (gA b 12 z)) (F0 m 60 ls [])) : ∀ (a6 : Int32) (S : sSt) (H : Heap) (locs : List Loc) (ls : Array Slot) , Bb_X12_feed_60 kk60 a6 S k → RelM D cy b z tx S s H → va_S (gA b 12 z) s.heap H locs → lv_has ls 7 [(0, .ref (b + adM 0 0)), (6, .int a6)] → W p l e rm_X12_feed s m args below meth c H locs 0 0 (MQ below (PiM D cy b z tx k) args s 0 0 (gA b 12 z)) (F0 m 60 ls []) := by
  intro a6 S H locs ls h hR hS hl
  have hx := C0.1
  have hb := C0.2.1
  unfold Bb_X12_feed_60 at h
  refine lv_iload hx hb dX12_feed_60 (lv_at hl 1 rfl) ?_
  refine lv_bipush (v := 20) hx hb dX12_feed_62 (by decide) ?_
  refine lv_icmp_ge (tgt := 106) hx hb dX12_feed_64 (by decide) (fun c8 => ?_) (fun c8 => ?_)
  · have h := h.1 c8
    refine lv_aload_n hx hb dX12_feed_106 rfl (lv_at hl 0 rfl) ?_
    refine lv_dup hx hb dX12_feed_107 rfl ?_
    refine gM_0_9 C0 hR Nat.zero_lt_one tbs_wsX120 mM1_7_86 dX12_feed_108 ?_
    refine lv_bipush (v := 20) hx hb dX12_feed_111 (by decide) ?_
    refine lv_iadd hx hb dX12_feed_113 ?_
    refine pM_0_9 C0 hR hS Nat.zero_lt_one tbs_wsX120 mM1_7_86 dX12_feed_114 (fun S9 eS9 H locs hR hS => ?_)
    have h := h S9 eS9
    refine lv_aload_n hx hb dX12_feed_117 rfl (lv_at hl 0 rfl) ?_
    refine gM_0_9 C0 hR Nat.zero_lt_one tbs_wsX120 mM1_7_86 dX12_feed_118 ?_
    exact rtM_i C0 hr hlk hR hS h dX12_feed_121
  · have h := h.2 c8
    refine lv_aload_n hx hb dX12_feed_67 rfl (lv_at hl 0 rfl) ?_
    refine gM_0_8 C0 hR Nat.zero_lt_one tbs_wsX120 mM1_7_85 dX12_feed_68 ?_
    refine lv_aload_n hx hb dX12_feed_71 rfl (lv_at hl 0 rfl) ?_
    refine gM_0_9 C0 hR Nat.zero_lt_one tbs_wsX120 mM1_7_86 dX12_feed_72 ?_
    refine lv_iload hx hb dX12_feed_75 (lv_at hl 1 rfl) ?_
    refine lv_iadd hx hb dX12_feed_77 ?_
    refine lv_aload_n hx hb dX12_feed_78 rfl (lv_at hl 0 rfl) ?_
    refine gM_0_14 C0 hR Nat.zero_lt_one tbs_wsX120 mM1_7_91 dX12_feed_79 ?_
    refine lv_iload hx hb dX12_feed_82 (lv_at hl 1 rfl) ?_
    refine lv_iconst (v := 4) hx hb dX12_feed_84 (by decide) ?_
    refine lv_idiv hx hb dX12_feed_85 (by decide) ?_
    obtain ⟨j10, hj10, ej10, h⟩ := h
    refine lM_7 C0 hR Nat.zero_lt_one hj10 ej10 dX12_feed_86 ?_
    refine lv_bipush (v := 24) hx hb dX12_feed_87 (by decide) ?_
    refine lv_bipush (v := 8) hx hb dX12_feed_89 (by decide) ?_
    refine lv_iload hx hb dX12_feed_91 (lv_at hl 1 rfl) ?_
    refine lv_iconst (v := 4) hx hb dX12_feed_93 (by decide) ?_
    refine lv_irem hx hb dX12_feed_94 (by decide) ?_
    refine lv_imul hx hb dX12_feed_95 ?_
    refine lv_isub hx hb dX12_feed_96 ?_
    refine lv_ishr hx hb dX12_feed_97 ?_
    refine lv_i2b (v := ((S.1 7 0 j10) >>> ((24 - (8 * (a6 - a6 / 4 * 4))) &&& 31)).toInt8.toInt32) hx hb dX12_feed_98 rfl ?_
    obtain ⟨j11, hj11, ej11, h⟩ := h
    refine sM_6 C0 hR hS Nat.zero_lt_one hj11 ej11 dX12_feed_99 (fun S12 eS12 H locs hR hS => ?_)
    have h := h S12 eS12
    obtain ⟨x13, ex13⟩ : ∃ x13 : Int32, x13 = a6 + 1 := ⟨_, rfl⟩
    have h := h x13 ex13
    refine w_iinc (v0 := 1) (lv' := [(6, .int x13), (0, .ref (b + adM 0 0))]) C0 dX12_feed_100 hl (k := 1) rfl (by decide) (by decide) x13 ex13 rfl (fun ls hl => ?_)
    refine lv_goto (tgt := 60) hx hb dX12_feed_103 (by decide) ?_
    exact ih60 x13 S12 _ _ _  h hR hS (lv_sub hl [1, 0] rfl)
def B_X12_feed_60 (n9 : Nat) (a6 : Int32) (S : sSt) (k : Int32 → sSt → Prop) : Prop := (Nat.rec (motive := fun _ => Int32 → sSt → Prop) (fun _ _ => False) (fun _ r9 => fun a6 S => Bb_X12_feed_60 r9 a6 S k) n9 : Int32 → sSt → Prop) a6 S
theorem B_X12_feed_60_s (n9 : Nat) (a6 : Int32) (S : sSt) (k : Int32 → sSt → Prop) : B_X12_feed_60 (n9 + 1) a6 S k = Bb_X12_feed_60 (fun a6 S => B_X12_feed_60 n9 a6 S k) a6 S k := rfl
set_option maxHeartbeats 4000000 in
set_option maxRecDepth 100000 in
theorem Bw_X12_feed_60 {p : Program} {l : Launch} {e : Env} {s : State} {m : MethodId} {args : Array Value} {below : List Frame} {meth : Method} {c : Code} {D : va_G} {cy : Nat → ClassId} {b z : Nat} {tx : TX} (C0 : CallFix p m c cX12_feed 7 s args TB RX12) (hr : meth.sig.returnType = (some .int)) (hlk : meth.locks = false) (hT : TxR tx s) {k : Int32 → sSt → Prop} : ∀ (n9 : Nat), ∀ (a6 : Int32) (S : sSt) (H : Heap) (locs : List Loc) (ls : Array Slot) , B_X12_feed_60 n9 a6 S k → RelM D cy b z tx S s H → va_S (gA b 12 z) s.heap H locs → lv_has ls 7 [(0, .ref (b + adM 0 0)), (6, .int a6)] → W p l e rm_X12_feed s m args below meth c H locs 0 0 (MQ below (PiM D cy b z tx k) args s 0 0 (gA b 12 z)) (F0 m 60 ls []) := by
  intro n9
  induction n9 with
  | zero => intro a6 S H locs ls h; exact h.elim
  | succ n9 ih =>
    intro a6 S H locs ls h hR hS hl
    exact Bbw_X12_feed_60 C0 hr hlk hT ih a6 S H locs ls h hR hS hl
def F_X12_feed (a1 : Int32) (a2 : Int32) (a3 : Int32) (a4 : Int32) (a5 : Int32) (S : sSt) (k : Int32 → sSt → Prop) : Prop := ∀ S1, S1 = uI S 0 0 0 0 → ((((S1.1 0 0 9) + 20) ≤ 400 → ∀ S3, S3 = uI S1 7 0 0 a1 → ∀ S4, S4 = uI S3 7 0 1 a2 → ∀ S5, S5 = uI S4 7 0 2 a3 → ∀ S6, S6 = uI S5 7 0 3 a4 → ∀ S7, S7 = uI S6 7 0 4 a5 → B_X12_feed_60 fuel 0 S7 k) ∧ (¬ ((S1.1 0 0 9) + 20) ≤ 400 → k (-1) S1))
set_option maxHeartbeats 4000000 in
set_option maxRecDepth 100000 in
theorem c_X12_feed (l : Launch) {D : va_G} {cy : Nat → ClassId} {b z : Nat} {tx : TX} {a1 : Int32} {a2 : Int32} {a3 : Int32} {a4 : Int32} {a5 : Int32} {S : sSt} {k : Int32 → sSt → Prop} (h : F_X12_feed a1 a2 a3 a4 a5 S k) : Met l yX12_feed (Cond.code yX12_feed cX12_feed 7 (some .int) :: TB) rm_X12_feed (va_Pc [.ref (b + adM 0 0), .int a1, .int a2, .int a3, .int a4, .int a5] (fun U => RelM D cy b z tx S U U.heap ∧ TxR tx U)) (PiM D cy b z tx k) 0 0 (gA b 12 z) := by
  refine Met.ofW (cc := cX12_feed) (maxL := 7) (ret := (some .int)) (by decide) rfl ?_
  intro p e s m args below meth c s₁ B hml hv
  obtain ⟨rfl, hR, hT⟩ := hv
  have C0 : CallFix p m c cX12_feed 7 s _ TB RX12 := ⟨B.exec, B.bytes, hml, findClass_of_methodNamed B.named, fun w hw => atoms_spec B.pre w (List.mem_cons_of_mem _ hw)⟩
  have hr := B.returns
  have hlk := B.notSynchronized
  have hx := C0.1
  have hb := C0.2.1
  have hS : va_S (gA b 12 z) s.heap s.heap [] := va_S.rf
  have hl := lv_entry ([.ref (b + adM 0 0), .int a1, .int a2, .int a3, .int a4, .int a5]) (n := 7) (Nat.le_of_ble_eq_true rfl)
  rw [lg_entry_eq]
  generalize (lg_sl ([.ref (b + adM 0 0), .int a1, .int a2, .int a3, .int a4, .int a5]) ++ List.replicate (7 - (lg_sl ([.ref (b + adM 0 0), .int a1, .int a2, .int a3, .int a4, .int a5])).length) Slot.unset).toArray = ls at hl ⊢
  have hl : lv_has ls 7 [(0, .ref (b + adM 0 0)), (1, .int a1), (2, .int a2), (3, .int a3), (4, .int a4), (5, .int a5)] := hl
  show W p l e rm_X12_feed s m _ below meth c s.heap [] 0 0 (MQ below (PiM D cy b z tx k) _ s 0 0 (gA b 12 z)) _
  unfold F_X12_feed at h
  refine lv_aload_n hx hb dX12_feed_0 rfl (lv_at hl 0 rfl) ?_
  refine lv_iconst (v := 0) hx hb dX12_feed_1 (by decide) ?_
  refine pM_0_0 C0 hR hS Nat.zero_lt_one tbs_wsX120 mM1_7_77 dX12_feed_2 (fun S1 eS1 H locs hR hS => ?_)
  have h := h S1 eS1
  refine lv_aload_n hx hb dX12_feed_5 rfl (lv_at hl 0 rfl) ?_
  refine gM_0_9 C0 hR Nat.zero_lt_one tbs_wsX120 mM1_7_86 dX12_feed_6 ?_
  refine lv_bipush (v := 20) hx hb dX12_feed_9 (by decide) ?_
  refine lv_iadd hx hb dX12_feed_11 ?_
  refine lv_sipush (v := 400) hx hb dX12_feed_12 (by decide) ?_
  refine lv_icmp_le (tgt := 20) hx hb dX12_feed_15 (by decide) (fun c2 => ?_) (fun c2 => ?_)
  · have h := h.1 c2
    refine lv_aload_n hx hb dX12_feed_20 rfl (lv_at hl 0 rfl) ?_
    refine gM_0_14 C0 hR Nat.zero_lt_one tbs_wsX120 mM1_7_91 dX12_feed_21 ?_
    refine lv_iconst (v := 0) hx hb dX12_feed_24 (by decide) ?_
    refine lv_iload_n hx hb dX12_feed_25 rfl (lv_at hl 1 rfl) ?_
    refine sM_7 C0 hR hS Nat.zero_lt_one (by decide) rfl dX12_feed_26 (fun S3 eS3 H locs hR hS => ?_)
    have h := h S3 eS3
    refine lv_aload_n hx hb dX12_feed_27 rfl (lv_at hl 0 rfl) ?_
    refine gM_0_14 C0 hR Nat.zero_lt_one tbs_wsX120 mM1_7_91 dX12_feed_28 ?_
    refine lv_iconst (v := 1) hx hb dX12_feed_31 (by decide) ?_
    refine lv_iload_n hx hb dX12_feed_32 rfl (lv_at hl 2 rfl) ?_
    refine sM_7 C0 hR hS Nat.zero_lt_one (by decide) rfl dX12_feed_33 (fun S4 eS4 H locs hR hS => ?_)
    have h := h S4 eS4
    refine lv_aload_n hx hb dX12_feed_34 rfl (lv_at hl 0 rfl) ?_
    refine gM_0_14 C0 hR Nat.zero_lt_one tbs_wsX120 mM1_7_91 dX12_feed_35 ?_
    refine lv_iconst (v := 2) hx hb dX12_feed_38 (by decide) ?_
    refine lv_iload_n hx hb dX12_feed_39 rfl (lv_at hl 3 rfl) ?_
    refine sM_7 C0 hR hS Nat.zero_lt_one (by decide) rfl dX12_feed_40 (fun S5 eS5 H locs hR hS => ?_)
    have h := h S5 eS5
    refine lv_aload_n hx hb dX12_feed_41 rfl (lv_at hl 0 rfl) ?_
    refine gM_0_14 C0 hR Nat.zero_lt_one tbs_wsX120 mM1_7_91 dX12_feed_42 ?_
    refine lv_iconst (v := 3) hx hb dX12_feed_45 (by decide) ?_
    refine lv_iload hx hb dX12_feed_46 (lv_at hl 4 rfl) ?_
    refine sM_7 C0 hR hS Nat.zero_lt_one (by decide) rfl dX12_feed_48 (fun S6 eS6 H locs hR hS => ?_)
    have h := h S6 eS6
    refine lv_aload_n hx hb dX12_feed_49 rfl (lv_at hl 0 rfl) ?_
    refine gM_0_14 C0 hR Nat.zero_lt_one tbs_wsX120 mM1_7_91 dX12_feed_50 ?_
    refine lv_iconst (v := 4) hx hb dX12_feed_53 (by decide) ?_
    refine lv_iload hx hb dX12_feed_54 (lv_at hl 5 rfl) ?_
    refine sM_7 C0 hR hS Nat.zero_lt_one (by decide) rfl dX12_feed_56 (fun S7 eS7 H locs hR hS => ?_)
    have h := h S7 eS7
    refine lv_iconst (v := 0) hx hb dX12_feed_57 (by decide) ?_
    refine lv_istore (lv' := [(6, .int 0), (0, .ref (b + adM 0 0)), (1, .int a1), (2, .int a2), (3, .int a3), (4, .int a4), (5, .int a5)]) hx hb dX12_feed_58 hl (by decide) rfl (fun ls hl => ?_)
    exact Bw_X12_feed_60 C0 hr hlk hT fuel 0 S7 _ _ _ h hR hS (lv_sub hl [1, 0] rfl)
  · have h := h.2 c2
    refine lv_iconst (v := (-1)) hx hb dX12_feed_18 (by decide) ?_
    exact rtM_i C0 hr hlk hR hS h dX12_feed_19

def rm_X12_end : Room := { frames := 0, cells := 0, slots := 0, locals := 0 }
def F_X12_end (a1 : Int32) (S : sSt) (k : Int32 → sSt → Prop) : Prop := ∀ S1, S1 = uI S 0 0 0 0 → ((a1 < 0 → k 0 S1) ∧ (¬ a1 < 0 → ((a1 ≤ (S1.1 0 0 9) → ∀ S4, S4 = uI S1 0 0 9 a1 → k 1 S4) ∧ (¬ a1 ≤ (S1.1 0 0 9) → k 0 S1))))
set_option maxHeartbeats 4000000 in
set_option maxRecDepth 100000 in
theorem c_X12_end (l : Launch) {D : va_G} {cy : Nat → ClassId} {b z : Nat} {tx : TX} {a1 : Int32} {S : sSt} {k : Int32 → sSt → Prop} (h : F_X12_end a1 S k) : Met l yX12_end (Cond.code yX12_end cX12_end 2 (some .boolean) :: TB) rm_X12_end (va_Pc [.ref (b + adM 0 0), .int a1] (fun U => RelM D cy b z tx S U U.heap ∧ TxR tx U)) (PiM D cy b z tx k) 0 0 (gA b 12 z) := by
  refine Met.ofW (cc := cX12_end) (maxL := 2) (ret := (some .boolean)) (by decide) rfl ?_
  intro p e s m args below meth c s₁ B hml hv
  obtain ⟨rfl, hR, hT⟩ := hv
  have C0 : CallFix p m c cX12_end 2 s _ TB RX12 := ⟨B.exec, B.bytes, hml, findClass_of_methodNamed B.named, fun w hw => atoms_spec B.pre w (List.mem_cons_of_mem _ hw)⟩
  have hr := B.returns
  have hlk := B.notSynchronized
  have hx := C0.1
  have hb := C0.2.1
  have hS : va_S (gA b 12 z) s.heap s.heap [] := va_S.rf
  have hl := lv_entry ([.ref (b + adM 0 0), .int a1]) (n := 2) (Nat.le_of_ble_eq_true rfl)
  rw [lg_entry_eq]
  generalize (lg_sl ([.ref (b + adM 0 0), .int a1]) ++ List.replicate (2 - (lg_sl ([.ref (b + adM 0 0), .int a1])).length) Slot.unset).toArray = ls at hl ⊢
  have hl : lv_has ls 2 [(0, .ref (b + adM 0 0)), (1, .int a1)] := hl
  show W p l e rm_X12_end s m _ below meth c s.heap [] 0 0 (MQ below (PiM D cy b z tx k) _ s 0 0 (gA b 12 z)) _
  unfold F_X12_end at h
  refine lv_aload_n hx hb dX12_end_0 rfl (lv_at hl 0 rfl) ?_
  refine lv_iconst (v := 0) hx hb dX12_end_1 (by decide) ?_
  refine pM_0_0 C0 hR hS Nat.zero_lt_one tbs_wsX120 mM1_7_77 dX12_end_2 (fun S1 eS1 H locs hR hS => ?_)
  have h := h S1 eS1
  refine lv_iload_n hx hb dX12_end_5 rfl (lv_at hl 1 rfl) ?_
  refine lv_if_lt (tgt := 17) hx hb dX12_end_6 (by decide) (fun c2 => ?_) (fun c2 => ?_)
  · have h := h.1 c2
    refine lv_iconst (v := 0) hx hb dX12_end_17 (by decide) ?_
    exact rtM_z C0 hr hlk hR hS (by decide) h dX12_end_18
  · have h := h.2 c2
    refine lv_iload_n hx hb dX12_end_9 rfl (lv_at hl 1 rfl) ?_
    refine lv_aload_n hx hb dX12_end_10 rfl (lv_at hl 0 rfl) ?_
    refine gM_0_9 C0 hR Nat.zero_lt_one tbs_wsX120 mM1_7_86 dX12_end_11 ?_
    refine lv_icmp_le (tgt := 19) hx hb dX12_end_14 (by decide) (fun c3 => ?_) (fun c3 => ?_)
    · have h := h.1 c3
      refine lv_aload_n hx hb dX12_end_19 rfl (lv_at hl 0 rfl) ?_
      refine lv_iload_n hx hb dX12_end_20 rfl (lv_at hl 1 rfl) ?_
      refine pM_0_9 C0 hR hS Nat.zero_lt_one tbs_wsX120 mM1_7_86 dX12_end_21 (fun S4 eS4 H locs hR hS => ?_)
      have h := h S4 eS4
      refine lv_iconst (v := 1) hx hb dX12_end_24 (by decide) ?_
      exact rtM_z C0 hr hlk hR hS (by decide) h dX12_end_25
    · have h := h.2 c3
      refine lv_iconst (v := 0) hx hb dX12_end_17 (by decide) ?_
      exact rtM_z C0 hr hlk hR hS (by decide) h dX12_end_18

def rm_X12_isAt : Room := { frames := 0, cells := 0, slots := 0, locals := 0 }
def F_X12_isAt (a1 : Int32) (a2 : Int32) (S : sSt) (k : Int32 → sSt → Prop) : Prop := (((S.1 0 0 11) ≤ (S.1 0 0 10) → k 0 S) ∧ (¬ (S.1 0 0 11) ≤ (S.1 0 0 10) → ix (S.1 0 0 10) 400 (fun j2 => (((S.1 6 0 j2) < a1 → k 0 S) ∧ (¬ (S.1 6 0 j2) < a1 → ((a2 < (S.1 6 0 j2) → k 0 S) ∧ (¬ a2 < (S.1 6 0 j2) → k 1 S)))))))
set_option maxHeartbeats 4000000 in
set_option maxRecDepth 100000 in
theorem c_X12_isAt (l : Launch) {D : va_G} {cy : Nat → ClassId} {b z : Nat} {tx : TX} {a1 : Int32} {a2 : Int32} {S : sSt} {k : Int32 → sSt → Prop} (h : F_X12_isAt a1 a2 S k) : Met l yX12_isAt (Cond.code yX12_isAt cX12_isAt 3 (some .boolean) :: TB) rm_X12_isAt (va_Pc [.ref (b + adM 0 0), .int a1, .int a2] (fun U => RelM D cy b z tx S U U.heap ∧ TxR tx U)) (PiM D cy b z tx k) 0 0 (gA b 12 z) := by
  refine Met.ofW (cc := cX12_isAt) (maxL := 3) (ret := (some .boolean)) (by decide) rfl ?_
  intro p e s m args below meth c s₁ B hml hv
  obtain ⟨rfl, hR, hT⟩ := hv
  have C0 : CallFix p m c cX12_isAt 3 s _ TB RX12 := ⟨B.exec, B.bytes, hml, findClass_of_methodNamed B.named, fun w hw => atoms_spec B.pre w (List.mem_cons_of_mem _ hw)⟩
  have hr := B.returns
  have hlk := B.notSynchronized
  have hx := C0.1
  have hb := C0.2.1
  have hS : va_S (gA b 12 z) s.heap s.heap [] := va_S.rf
  have hl := lv_entry ([.ref (b + adM 0 0), .int a1, .int a2]) (n := 3) (Nat.le_of_ble_eq_true rfl)
  rw [lg_entry_eq]
  generalize (lg_sl ([.ref (b + adM 0 0), .int a1, .int a2]) ++ List.replicate (3 - (lg_sl ([.ref (b + adM 0 0), .int a1, .int a2])).length) Slot.unset).toArray = ls at hl ⊢
  have hl : lv_has ls 3 [(0, .ref (b + adM 0 0)), (1, .int a1), (2, .int a2)] := hl
  show W p l e rm_X12_isAt s m _ below meth c s.heap [] 0 0 (MQ below (PiM D cy b z tx k) _ s 0 0 (gA b 12 z)) _
  unfold F_X12_isAt at h
  refine lv_aload_n hx hb dX12_isAt_0 rfl (lv_at hl 0 rfl) ?_
  refine gM_0_10 C0 hR Nat.zero_lt_one tbs_wsX120 mM1_7_87 dX12_isAt_1 ?_
  refine lv_aload_n hx hb dX12_isAt_4 rfl (lv_at hl 0 rfl) ?_
  refine gM_0_11 C0 hR Nat.zero_lt_one tbs_wsX120 mM1_7_88 dX12_isAt_5 ?_
  refine lv_icmp_ge (tgt := 41) hx hb dX12_isAt_8 (by decide) (fun c1 => ?_) (fun c1 => ?_)
  · have h := h.1 c1
    refine lv_iconst (v := 0) hx hb dX12_isAt_41 (by decide) ?_
    exact rtM_z C0 hr hlk hR hS (by decide) h dX12_isAt_42
  · have h := h.2 c1
    refine lv_aload_n hx hb dX12_isAt_11 rfl (lv_at hl 0 rfl) ?_
    refine gM_0_8 C0 hR Nat.zero_lt_one tbs_wsX120 mM1_7_85 dX12_isAt_12 ?_
    refine lv_aload_n hx hb dX12_isAt_15 rfl (lv_at hl 0 rfl) ?_
    refine gM_0_10 C0 hR Nat.zero_lt_one tbs_wsX120 mM1_7_87 dX12_isAt_16 ?_
    obtain ⟨j2, hj2, ej2, h⟩ := h
    refine lM_6 C0 hR Nat.zero_lt_one hj2 ej2 dX12_isAt_19 ?_
    refine lv_iload_n hx hb dX12_isAt_20 rfl (lv_at hl 1 rfl) ?_
    refine lv_icmp_lt (tgt := 41) hx hb dX12_isAt_21 (by decide) (fun c3 => ?_) (fun c3 => ?_)
    · have h := h.1 c3
      refine lv_iconst (v := 0) hx hb dX12_isAt_41 (by decide) ?_
      exact rtM_z C0 hr hlk hR hS (by decide) h dX12_isAt_42
    · have h := h.2 c3
      refine lv_aload_n hx hb dX12_isAt_24 rfl (lv_at hl 0 rfl) ?_
      refine gM_0_8 C0 hR Nat.zero_lt_one tbs_wsX120 mM1_7_85 dX12_isAt_25 ?_
      refine lv_aload_n hx hb dX12_isAt_28 rfl (lv_at hl 0 rfl) ?_
      refine gM_0_10 C0 hR Nat.zero_lt_one tbs_wsX120 mM1_7_87 dX12_isAt_29 ?_
      refine lM_6 C0 hR Nat.zero_lt_one hj2 ej2 dX12_isAt_32 ?_
      refine lv_iload_n hx hb dX12_isAt_33 rfl (lv_at hl 2 rfl) ?_
      refine lv_icmp_gt (tgt := 41) hx hb dX12_isAt_34 (by decide) (fun c4 => ?_) (fun c4 => ?_)
      · have h := h.1 c4
        refine lv_iconst (v := 0) hx hb dX12_isAt_41 (by decide) ?_
        exact rtM_z C0 hr hlk hR hS (by decide) h dX12_isAt_42
      · have h := h.2 c4
        refine lv_iconst (v := 1) hx hb dX12_isAt_37 (by decide) ?_
        refine lv_goto (tgt := 42) hx hb dX12_isAt_38 (by decide) ?_
        exact rtM_z C0 hr hlk hR hS (by decide) h dX12_isAt_42

def rm_X12_blanks : Room := { frames := 1, cells := 0, slots := 0, locals := 22 }
def Bb_X12_blanks_0 (kk0 : sSt → Prop) (S : sSt) (k : sSt → Prop) : Prop := F_X12_isAt 32 32 S (fun r1 S2 => ((r1 = 0 → ∀ S4, S4 = uI S2 0 0 12 (S2.1 0 0 10) → k S4) ∧ (¬ r1 = 0 → ∀ S5, S5 = uI S2 0 0 10 ((S2.1 0 0 10) + 1) → kk0 S5)))
set_option maxHeartbeats 4000000 in
set_option maxRecDepth 100000 in
theorem Bbw_X12_blanks_0 {p : Program} {l : Launch} {e : Env} {s : State} {m : MethodId} {args : Array Value} {below : List Frame} {meth : Method} {c : Code} {D : va_G} {cy : Nat → ClassId} {b z : Nat} {tx : TX} (C0 : CallFix p m c cX12_blanks 1 s args TB RX12) (hr : meth.sig.returnType = none) (hlk : meth.locks = false) (hT : TxR tx s) {k : sSt → Prop} {kk0 : sSt → Prop} (ih0 : ∀ (S : sSt) (H : Heap) (locs : List Loc) (ls : Array Slot) , kk0 S → RelM D cy b z tx S s H → va_S (gA b 12 z) s.heap H locs → lv_has ls 1 [(0, .ref (b + adM 0 0))] → W p l e rm_X12_blanks s m args below meth c H locs 0 0 (MQ below (PvM D cy b z tx k) args s 0 0 (gA b 12 z)) (F0 m 0 ls [])) : ∀ (S : sSt) (H : Heap) (locs : List Loc) (ls : Array Slot) , Bb_X12_blanks_0 kk0 S k → RelM D cy b z tx S s H → va_S (gA b 12 z) s.heap H locs → lv_has ls 1 [(0, .ref (b + adM 0 0))] → W p l e rm_X12_blanks s m args below meth c H locs 0 0 (MQ below (PvM D cy b z tx k) args s 0 0 (gA b 12 z)) (F0 m 0 ls []) := by
  intro S H locs ls h hR hS hl
  have hx := C0.1
  have hb := C0.2.1
  unfold Bb_X12_blanks_0 at h
  refine lv_aload_n hx hb dX12_blanks_0 rfl (lv_at hl 0 rfl) ?_
  refine lv_bipush (v := 32) hx hb dX12_blanks_1 (by decide) ?_
  refine lv_bipush (v := 32) hx hb dX12_blanks_3 (by decide) ?_
  refine qM_Vi (As := [.int 32, .int 32]) (rest := []) C0 (c_X12_isAt l h) (cwV 2 C0.2.2.2.2 (tbV mM1_7_175 ⟨mM1_7_177, mpM1_2_13, mM1_1_11, mM1_7_178⟩) rfl rfl rfl (by decide +kernel) ⟨Nat.le_of_ble_eq_true rfl, Nat.le_of_ble_eq_true rfl⟩) (rcM_0 hR Nat.zero_lt_one) hR hT hS rfl hl.1 rfl (Nat.le_of_ble_eq_true rfl) dX12_blanks_5 ⟨Nat.zero_le _, Nat.zero_le _⟩ (fun r1 S2 H locs h hR hS => ?_)
  refine lv_if_eq (tgt := 24) hx hb dX12_blanks_8 (by decide) (fun c3 => ?_) (fun c3 => ?_)
  · have h := h.1 c3
    refine lv_aload_n hx hb dX12_blanks_24 rfl (lv_at hl 0 rfl) ?_
    refine lv_aload_n hx hb dX12_blanks_25 rfl (lv_at hl 0 rfl) ?_
    refine gM_0_10 C0 hR Nat.zero_lt_one tbs_wsX120 mM1_7_87 dX12_blanks_26 ?_
    refine pM_0_12 C0 hR hS Nat.zero_lt_one tbs_wsX120 mM1_7_89 dX12_blanks_29 (fun S4 eS4 H locs hR hS => ?_)
    have h := h S4 eS4
    exact rtM_v C0 hr hlk hR hS h dX12_blanks_32
  · have h := h.2 c3
    refine lv_aload_n hx hb dX12_blanks_11 rfl (lv_at hl 0 rfl) ?_
    refine lv_dup hx hb dX12_blanks_12 rfl ?_
    refine gM_0_10 C0 hR Nat.zero_lt_one tbs_wsX120 mM1_7_87 dX12_blanks_13 ?_
    refine lv_iconst (v := 1) hx hb dX12_blanks_16 (by decide) ?_
    refine lv_iadd hx hb dX12_blanks_17 ?_
    refine pM_0_10 C0 hR hS Nat.zero_lt_one tbs_wsX120 mM1_7_87 dX12_blanks_18 (fun S5 eS5 H locs hR hS => ?_)
    have h := h S5 eS5
    refine lv_goto (tgt := 0) hx hb dX12_blanks_21 (by decide) ?_
    exact ih0  S5 _ _ _  h hR hS (lv_sub hl [0] rfl)
def B_X12_blanks_0 (n9 : Nat) (S : sSt) (k : sSt → Prop) : Prop := (Nat.rec (motive := fun _ => sSt → Prop) (fun _ => False) (fun _ r9 => fun S => Bb_X12_blanks_0 r9 S k) n9 : sSt → Prop) S
theorem B_X12_blanks_0_s (n9 : Nat) (S : sSt) (k : sSt → Prop) : B_X12_blanks_0 (n9 + 1) S k = Bb_X12_blanks_0 (fun S => B_X12_blanks_0 n9 S k) S k := rfl
set_option maxHeartbeats 4000000 in
set_option maxRecDepth 100000 in
theorem Bw_X12_blanks_0 {p : Program} {l : Launch} {e : Env} {s : State} {m : MethodId} {args : Array Value} {below : List Frame} {meth : Method} {c : Code} {D : va_G} {cy : Nat → ClassId} {b z : Nat} {tx : TX} (C0 : CallFix p m c cX12_blanks 1 s args TB RX12) (hr : meth.sig.returnType = none) (hlk : meth.locks = false) (hT : TxR tx s) {k : sSt → Prop} : ∀ (n9 : Nat), ∀ (S : sSt) (H : Heap) (locs : List Loc) (ls : Array Slot) , B_X12_blanks_0 n9 S k → RelM D cy b z tx S s H → va_S (gA b 12 z) s.heap H locs → lv_has ls 1 [(0, .ref (b + adM 0 0))] → W p l e rm_X12_blanks s m args below meth c H locs 0 0 (MQ below (PvM D cy b z tx k) args s 0 0 (gA b 12 z)) (F0 m 0 ls []) := by
  intro n9
  induction n9 with
  | zero => intro S H locs ls h; exact h.elim
  | succ n9 ih =>
    intro S H locs ls h hR hS hl
    exact Bbw_X12_blanks_0 C0 hr hlk hT ih S H locs ls h hR hS hl
def F_X12_blanks (S : sSt) (k : sSt → Prop) : Prop := B_X12_blanks_0 fuel S k
set_option maxHeartbeats 4000000 in
set_option maxRecDepth 100000 in
theorem c_X12_blanks (l : Launch) {D : va_G} {cy : Nat → ClassId} {b z : Nat} {tx : TX} {S : sSt} {k : sSt → Prop} (h : F_X12_blanks S k) : Met l yX12_blanks (Cond.code yX12_blanks cX12_blanks 1 none :: TB) rm_X12_blanks (va_Pc [.ref (b + adM 0 0)] (fun U => RelM D cy b z tx S U U.heap ∧ TxR tx U)) (PvM D cy b z tx k) 0 0 (gA b 12 z) := by
  refine Met.ofW (cc := cX12_blanks) (maxL := 1) (ret := none) (by decide) rfl ?_
  intro p e s m args below meth c s₁ B hml hv
  obtain ⟨rfl, hR, hT⟩ := hv
  have C0 : CallFix p m c cX12_blanks 1 s _ TB RX12 := ⟨B.exec, B.bytes, hml, findClass_of_methodNamed B.named, fun w hw => atoms_spec B.pre w (List.mem_cons_of_mem _ hw)⟩
  have hr := B.returns
  have hlk := B.notSynchronized
  have hx := C0.1
  have hb := C0.2.1
  have hS : va_S (gA b 12 z) s.heap s.heap [] := va_S.rf
  have hl := lv_entry ([.ref (b + adM 0 0)]) (n := 1) (Nat.le_of_ble_eq_true rfl)
  rw [lg_entry_eq]
  generalize (lg_sl ([.ref (b + adM 0 0)]) ++ List.replicate (1 - (lg_sl ([.ref (b + adM 0 0)])).length) Slot.unset).toArray = ls at hl ⊢
  have hl : lv_has ls 1 [(0, .ref (b + adM 0 0))] := hl
  show W p l e rm_X12_blanks s m _ below meth c s.heap [] 0 0 (MQ below (PvM D cy b z tx k) _ s 0 0 (gA b 12 z)) _
  unfold F_X12_blanks at h
  exact Bw_X12_blanks_0 C0 hr hlk hT fuel S _ _ _ h hR hS (lv_sub hl [0] rfl)

def rm_X12_letters : Room := { frames := 2, cells := 0, slots := 0, locals := 42 }
def Bb_X12_letters_4 (kk4 : sSt → Prop) (S : sSt) (k : sSt → Prop) : Prop := F_X12_isAt 97 122 S (fun r3 S4 => ((r3 = 0 → k S4) ∧ (¬ r3 = 0 → ∀ S6, S6 = uI S4 0 0 10 ((S4.1 0 0 10) + 1) → kk4 S6)))
set_option maxHeartbeats 4000000 in
set_option maxRecDepth 100000 in
theorem Bbw_X12_letters_4 {p : Program} {l : Launch} {e : Env} {s : State} {m : MethodId} {args : Array Value} {below : List Frame} {meth : Method} {c : Code} {D : va_G} {cy : Nat → ClassId} {b z : Nat} {tx : TX} (C0 : CallFix p m c cX12_letters 1 s args TB RX12) (hr : meth.sig.returnType = none) (hlk : meth.locks = false) (hT : TxR tx s) {k : sSt → Prop} {kk4 : sSt → Prop} (ih4 : ∀ (S : sSt) (H : Heap) (locs : List Loc) (ls : Array Slot) , kk4 S → RelM D cy b z tx S s H → va_S (gA b 12 z) s.heap H locs → lv_has ls 1 [(0, .ref (b + adM 0 0))] → W p l e rm_X12_letters s m args below meth c H locs 0 0 (MQ below (PvM D cy b z tx k) args s 0 0 (gA b 12 z)) (F0 m 4 ls [])) : ∀ (S : sSt) (H : Heap) (locs : List Loc) (ls : Array Slot) , Bb_X12_letters_4 kk4 S k → RelM D cy b z tx S s H → va_S (gA b 12 z) s.heap H locs → lv_has ls 1 [(0, .ref (b + adM 0 0))] → W p l e rm_X12_letters s m args below meth c H locs 0 0 (MQ below (PvM D cy b z tx k) args s 0 0 (gA b 12 z)) (F0 m 4 ls []) := by
  intro S H locs ls h hR hS hl
  have hx := C0.1
  have hb := C0.2.1
  unfold Bb_X12_letters_4 at h
  refine lv_aload_n hx hb dX12_letters_4 rfl (lv_at hl 0 rfl) ?_
  refine lv_bipush (v := 97) hx hb dX12_letters_5 (by decide) ?_
  refine lv_bipush (v := 122) hx hb dX12_letters_7 (by decide) ?_
  refine qM_Vi (As := [.int 97, .int 122]) (rest := []) C0 (c_X12_isAt l h) (cwV 2 C0.2.2.2.2 (tbV mM1_7_175 ⟨mM1_7_177, mpM1_2_13, mM1_1_11, mM1_7_178⟩) rfl rfl rfl (by decide +kernel) ⟨Nat.le_of_ble_eq_true rfl, Nat.le_of_ble_eq_true rfl⟩) (rcM_0 hR Nat.zero_lt_one) hR hT hS rfl hl.1 rfl (Nat.le_of_ble_eq_true rfl) dX12_letters_9 ⟨Nat.zero_le _, Nat.zero_le _⟩ (fun r3 S4 H locs h hR hS => ?_)
  refine lv_if_eq (tgt := 28) hx hb dX12_letters_12 (by decide) (fun c5 => ?_) (fun c5 => ?_)
  · have h := h.1 c5
    exact rtM_v C0 hr hlk hR hS h dX12_letters_28
  · have h := h.2 c5
    refine lv_aload_n hx hb dX12_letters_15 rfl (lv_at hl 0 rfl) ?_
    refine lv_dup hx hb dX12_letters_16 rfl ?_
    refine gM_0_10 C0 hR Nat.zero_lt_one tbs_wsX120 mM1_7_87 dX12_letters_17 ?_
    refine lv_iconst (v := 1) hx hb dX12_letters_20 (by decide) ?_
    refine lv_iadd hx hb dX12_letters_21 ?_
    refine pM_0_10 C0 hR hS Nat.zero_lt_one tbs_wsX120 mM1_7_87 dX12_letters_22 (fun S6 eS6 H locs hR hS => ?_)
    have h := h S6 eS6
    refine lv_goto (tgt := 4) hx hb dX12_letters_25 (by decide) ?_
    exact ih4  S6 _ _ _  h hR hS (lv_sub hl [0] rfl)
def B_X12_letters_4 (n9 : Nat) (S : sSt) (k : sSt → Prop) : Prop := (Nat.rec (motive := fun _ => sSt → Prop) (fun _ => False) (fun _ r9 => fun S => Bb_X12_letters_4 r9 S k) n9 : sSt → Prop) S
theorem B_X12_letters_4_s (n9 : Nat) (S : sSt) (k : sSt → Prop) : B_X12_letters_4 (n9 + 1) S k = Bb_X12_letters_4 (fun S => B_X12_letters_4 n9 S k) S k := rfl
set_option maxHeartbeats 4000000 in
set_option maxRecDepth 100000 in
theorem Bw_X12_letters_4 {p : Program} {l : Launch} {e : Env} {s : State} {m : MethodId} {args : Array Value} {below : List Frame} {meth : Method} {c : Code} {D : va_G} {cy : Nat → ClassId} {b z : Nat} {tx : TX} (C0 : CallFix p m c cX12_letters 1 s args TB RX12) (hr : meth.sig.returnType = none) (hlk : meth.locks = false) (hT : TxR tx s) {k : sSt → Prop} : ∀ (n9 : Nat), ∀ (S : sSt) (H : Heap) (locs : List Loc) (ls : Array Slot) , B_X12_letters_4 n9 S k → RelM D cy b z tx S s H → va_S (gA b 12 z) s.heap H locs → lv_has ls 1 [(0, .ref (b + adM 0 0))] → W p l e rm_X12_letters s m args below meth c H locs 0 0 (MQ below (PvM D cy b z tx k) args s 0 0 (gA b 12 z)) (F0 m 4 ls []) := by
  intro n9
  induction n9 with
  | zero => intro S H locs ls h; exact h.elim
  | succ n9 ih =>
    intro S H locs ls h hR hS hl
    exact Bbw_X12_letters_4 C0 hr hlk hT ih S H locs ls h hR hS hl
def F_X12_letters (S : sSt) (k : sSt → Prop) : Prop := F_X12_blanks S (fun S2 => B_X12_letters_4 fuel S2 k)
set_option maxHeartbeats 4000000 in
set_option maxRecDepth 100000 in
theorem c_X12_letters (l : Launch) {D : va_G} {cy : Nat → ClassId} {b z : Nat} {tx : TX} {S : sSt} {k : sSt → Prop} (h : F_X12_letters S k) : Met l yX12_letters (Cond.code yX12_letters cX12_letters 1 none :: TB) rm_X12_letters (va_Pc [.ref (b + adM 0 0)] (fun U => RelM D cy b z tx S U U.heap ∧ TxR tx U)) (PvM D cy b z tx k) 0 0 (gA b 12 z) := by
  refine Met.ofW (cc := cX12_letters) (maxL := 1) (ret := none) (by decide) rfl ?_
  intro p e s m args below meth c s₁ B hml hv
  obtain ⟨rfl, hR, hT⟩ := hv
  have C0 : CallFix p m c cX12_letters 1 s _ TB RX12 := ⟨B.exec, B.bytes, hml, findClass_of_methodNamed B.named, fun w hw => atoms_spec B.pre w (List.mem_cons_of_mem _ hw)⟩
  have hr := B.returns
  have hlk := B.notSynchronized
  have hx := C0.1
  have hb := C0.2.1
  have hS : va_S (gA b 12 z) s.heap s.heap [] := va_S.rf
  have hl := lv_entry ([.ref (b + adM 0 0)]) (n := 1) (Nat.le_of_ble_eq_true rfl)
  rw [lg_entry_eq]
  generalize (lg_sl ([.ref (b + adM 0 0)]) ++ List.replicate (1 - (lg_sl ([.ref (b + adM 0 0)])).length) Slot.unset).toArray = ls at hl ⊢
  have hl : lv_has ls 1 [(0, .ref (b + adM 0 0))] := hl
  show W p l e rm_X12_letters s m _ below meth c s.heap [] 0 0 (MQ below (PvM D cy b z tx k) _ s 0 0 (gA b 12 z)) _
  unfold F_X12_letters at h
  refine lv_aload_n hx hb dX12_letters_0 rfl (lv_at hl 0 rfl) ?_
  refine qM_Vv (As := []) (rest := []) C0 (c_X12_blanks l h) (cwV 0 C0.2.2.2.2 (tbV mM1_7_171 ⟨mM1_7_173, mpM1_2_12, mM1_1_11, mM1_7_174⟩) rfl rfl rfl (by decide +kernel) ⟨Nat.le_of_ble_eq_true rfl, Nat.le_of_ble_eq_true rfl⟩) (rcM_0 hR Nat.zero_lt_one) hR hT hS rfl hl.1 rfl (Nat.le_of_ble_eq_true rfl) dX12_letters_1 ⟨Nat.zero_le _, Nat.zero_le _⟩ (fun S2 H locs h hR hS => ?_)
  exact Bw_X12_letters_4 C0 hr hlk hT fuel S2 _ _ _ h hR hS (lv_sub hl [0] rfl)

def rm_X12_isWord : Room := { frames := 4, cells := 0, slots := 0, locals := 85 }
def B_X12_isWord_60 (kk24 : Nat → Int32 → Int32 → sSt → Prop) (a1 : Nat) (a3 : Int32) (t0 : Int32) (S : sSt) (k : Int32 → sSt → Prop) : Prop := ∀ x7 : Int32, x7 = a3 + 1 → kk24 a1 t0 x7 S
set_option maxHeartbeats 4000000 in
set_option maxRecDepth 100000 in
theorem Bw_X12_isWord_60 {p : Program} {l : Launch} {e : Env} {s : State} {m : MethodId} {args : Array Value} {below : List Frame} {meth : Method} {c : Code} {D : va_G} {cy : Nat → ClassId} {b z : Nat} {tx : TX} (C0 : CallFix p m c cX12_isWord 4 s args TB RX12) (hr : meth.sig.returnType = (some .boolean)) (hlk : meth.locks = false) (hT : TxR tx s) {k : Int32 → sSt → Prop} {kk24 : Nat → Int32 → Int32 → sSt → Prop} (ih24 : ∀ (a1 : Nat) (a2 : Int32) (a3 : Int32) (S : sSt) (H : Heap) (locs : List Loc) (ls : Array Slot) (av1 : a1 < nTx), kk24 a1 a2 a3 S → RelM D cy b z tx S s H → va_S (gA b 12 z) s.heap H locs → lv_has ls 4 [(0, .ref (b + adM 0 0)), (1, .ref (tx.2.1 a1)), (2, .int a2), (3, .int a3)] → W p l e rm_X12_isWord s m args below meth c H locs 0 0 (MQ below (PiM D cy b z tx k) args s 0 0 (gA b 12 z)) (F0 m 24 ls [])) : ∀ (a1 : Nat) (a3 : Int32) (t0 : Int32) (S : sSt) (H : Heap) (locs : List Loc) (ls : Array Slot) (av1 : a1 < nTx), B_X12_isWord_60 kk24 a1 a3 t0 S k → RelM D cy b z tx S s H → va_S (gA b 12 z) s.heap H locs → lv_has ls 4 [(0, .ref (b + adM 0 0)), (1, .ref (tx.2.1 a1)), (3, .int a3)] → W p l e rm_X12_isWord s m args below meth c H locs 0 0 (MQ below (PiM D cy b z tx k) args s 0 0 (gA b 12 z)) (F0 m 60 ls [.int t0]) := by
  intro a1 a3 t0 S H locs ls av1 h hR hS hl
  have hx := C0.1
  have hb := C0.2.1
  unfold B_X12_isWord_60 at h
  refine lv_istore_n (lv' := [(2, .int t0), (0, .ref (b + adM 0 0)), (1, .ref (tx.2.1 a1)), (3, .int a3)]) hx hb dX12_isWord_60 rfl hl (by decide) rfl (fun ls hl => ?_)
  obtain ⟨x7, ex7⟩ : ∃ x7 : Int32, x7 = a3 + 1 := ⟨_, rfl⟩
  have h := h x7 ex7
  refine w_iinc (v0 := 1) (lv' := [(3, .int x7), (2, .int t0), (0, .ref (b + adM 0 0)), (1, .ref (tx.2.1 a1))]) C0 dX12_isWord_61 hl (k := 3) rfl (by decide) (by decide) x7 ex7 rfl (fun ls hl => ?_)
  refine lv_goto (tgt := 24) hx hb dX12_isWord_64 (by decide) ?_
  exact ih24 a1 t0 x7 S _ _ _ av1 h hR hS (lv_sub hl [2, 3, 1, 0] rfl)
def Bb_X12_isWord_24 (kk24 : Nat → Int32 → Int32 → sSt → Prop) (a1 : Nat) (a2 : Int32) (a3 : Int32) (S : sSt) (k : Int32 → sSt → Prop) : Prop := ((a2 = 0 → bz a2 (k a2 S)) ∧ (¬ a2 = 0 → (((nI (lenTx.getD a1 0)) ≤ a3 → bz a2 (k a2 S)) ∧ (¬ (nI (lenTx.getD a1 0)) ≤ a3 → ix ((S.1 0 0 12) + a3) 400 (fun j4 => ix a3 (lenTx.getD a1 0) (fun j5 => ((¬ (S.1 6 0 j4) = (chTx a1 j5) → B_X12_isWord_60 kk24 a1 a3 0 S k) ∧ ((S.1 6 0 j4) = (chTx a1 j5) → B_X12_isWord_60 kk24 a1 a3 1 S k))))))))
set_option maxHeartbeats 4000000 in
set_option maxRecDepth 100000 in
theorem Bbw_X12_isWord_24 {p : Program} {l : Launch} {e : Env} {s : State} {m : MethodId} {args : Array Value} {below : List Frame} {meth : Method} {c : Code} {D : va_G} {cy : Nat → ClassId} {b z : Nat} {tx : TX} (C0 : CallFix p m c cX12_isWord 4 s args TB RX12) (hr : meth.sig.returnType = (some .boolean)) (hlk : meth.locks = false) (hT : TxR tx s) {k : Int32 → sSt → Prop} {kk24 : Nat → Int32 → Int32 → sSt → Prop} (ih24 : ∀ (a1 : Nat) (a2 : Int32) (a3 : Int32) (S : sSt) (H : Heap) (locs : List Loc) (ls : Array Slot) (av1 : a1 < nTx), kk24 a1 a2 a3 S → RelM D cy b z tx S s H → va_S (gA b 12 z) s.heap H locs → lv_has ls 4 [(0, .ref (b + adM 0 0)), (1, .ref (tx.2.1 a1)), (2, .int a2), (3, .int a3)] → W p l e rm_X12_isWord s m args below meth c H locs 0 0 (MQ below (PiM D cy b z tx k) args s 0 0 (gA b 12 z)) (F0 m 24 ls [])) : ∀ (a1 : Nat) (a2 : Int32) (a3 : Int32) (S : sSt) (H : Heap) (locs : List Loc) (ls : Array Slot) (av1 : a1 < nTx), Bb_X12_isWord_24 kk24 a1 a2 a3 S k → RelM D cy b z tx S s H → va_S (gA b 12 z) s.heap H locs → lv_has ls 4 [(0, .ref (b + adM 0 0)), (1, .ref (tx.2.1 a1)), (2, .int a2), (3, .int a3)] → W p l e rm_X12_isWord s m args below meth c H locs 0 0 (MQ below (PiM D cy b z tx k) args s 0 0 (gA b 12 z)) (F0 m 24 ls []) := by
  intro a1 a2 a3 S H locs ls av1 h hR hS hl
  have hx := C0.1
  have hb := C0.2.1
  unfold Bb_X12_isWord_24 at h
  refine lv_iload_n hx hb dX12_isWord_24 rfl (lv_at hl 2 rfl) ?_
  refine lv_if_eq (tgt := 67) hx hb dX12_isWord_25 (by decide) (fun c2 => ?_) (fun c2 => ?_)
  · have h := h.1 c2
    refine lv_iload_n hx hb dX12_isWord_67 rfl (lv_at hl 2 rfl) ?_
    exact rtM_z C0 hr hlk hR hS h.1 h.2 dX12_isWord_68
  · have h := h.2 c2
    refine lv_iload_n hx hb dX12_isWord_28 rfl (lv_at hl 3 rfl) ?_
    refine lv_aload_n hx hb dX12_isWord_29 rfl (lv_at hl 1 rfl) ?_
    refine q_Jv (As := []) (rest := [.int a3]) C0 (c_J_length l av1) (cwV 0 C0.2.2.2.2 (tbV mM1_7_192 ⟨mM1_3_146, mM1_3_147, mM1_1_14, mM1_3_148⟩) rfl rfl rfl (by decide +kernel) ⟨Nat.le_of_ble_eq_true rfl, Nat.le_of_ble_eq_true rfl⟩) (tx_recv hR.2.2.2.2 av1) hR.2.2.2.2 hS rfl hl.1 rfl (Nat.le_of_ble_eq_true rfl) dX12_isWord_30 ⟨Nat.zero_le _, Nat.zero_le _⟩ (fun H locs hz9 hq9 hS => ?_)
    have hR := hR.stay hz9 hq9
    refine lv_icmp_ge (tgt := 67) hx hb dX12_isWord_33 (by decide) (fun c3 => ?_) (fun c3 => ?_)
    · have h := h.1 c3
      refine lv_iload_n hx hb dX12_isWord_67 rfl (lv_at hl 2 rfl) ?_
      exact rtM_z C0 hr hlk hR hS h.1 h.2 dX12_isWord_68
    · have h := h.2 c3
      refine lv_aload_n hx hb dX12_isWord_36 rfl (lv_at hl 0 rfl) ?_
      refine gM_0_8 C0 hR Nat.zero_lt_one tbs_wsX120 mM1_7_85 dX12_isWord_37 ?_
      refine lv_aload_n hx hb dX12_isWord_40 rfl (lv_at hl 0 rfl) ?_
      refine gM_0_12 C0 hR Nat.zero_lt_one tbs_wsX120 mM1_7_89 dX12_isWord_41 ?_
      refine lv_iload_n hx hb dX12_isWord_44 rfl (lv_at hl 3 rfl) ?_
      refine lv_iadd hx hb dX12_isWord_45 ?_
      obtain ⟨j4, hj4, ej4, h⟩ := h
      refine lM_6 C0 hR Nat.zero_lt_one hj4 ej4 dX12_isWord_46 ?_
      refine lv_aload_n hx hb dX12_isWord_47 rfl (lv_at hl 1 rfl) ?_
      refine lv_iload_n hx hb dX12_isWord_48 rfl (lv_at hl 3 rfl) ?_
      obtain ⟨j5, hj5, ej5, h⟩ := h
      refine lv_eqi ej5 ?_
      refine q_Jv (As := [.int (nI j5)]) (rest := [.int (S.1 6 0 j4)]) C0 (c_J_char l av1 hj5) (cwV 1 C0.2.2.2.2 (tbV mM1_7_193 ⟨mM1_3_160, mM1_3_161, mM1_1_14, mM1_3_162⟩) rfl rfl rfl (by decide +kernel) ⟨Nat.le_of_ble_eq_true rfl, Nat.le_of_ble_eq_true rfl⟩) (tx_recv hR.2.2.2.2 av1) hR.2.2.2.2 hS rfl hl.1 rfl (Nat.le_of_ble_eq_true rfl) dX12_isWord_49 ⟨Nat.zero_le _, Nat.zero_le _⟩ (fun H locs hz9 hq9 hS => ?_)
      have hR := hR.stay hz9 hq9
      refine lv_icmp_ne (tgt := 59) hx hb dX12_isWord_52 (by decide) (fun c6 => ?_) (fun c6 => ?_)
      · have h := h.1 c6
        refine lv_iconst (v := 0) hx hb dX12_isWord_59 (by decide) ?_
        exact Bw_X12_isWord_60 C0 hr hlk hT ih24 a1 a3 0 S _ _ _ av1 h hR hS (lv_sub hl [0, 1, 3] rfl)
      · have h := h.2 c6
        refine lv_iconst (v := 1) hx hb dX12_isWord_55 (by decide) ?_
        refine lv_goto (tgt := 60) hx hb dX12_isWord_56 (by decide) ?_
        exact Bw_X12_isWord_60 C0 hr hlk hT ih24 a1 a3 1 S _ _ _ av1 h hR hS (lv_sub hl [0, 1, 3] rfl)
def B_X12_isWord_24 (n9 : Nat) (a1 : Nat) (a2 : Int32) (a3 : Int32) (S : sSt) (k : Int32 → sSt → Prop) : Prop := (Nat.rec (motive := fun _ => Nat → Int32 → Int32 → sSt → Prop) (fun _ _ _ _ => False) (fun _ r9 => fun a1 a2 a3 S => Bb_X12_isWord_24 r9 a1 a2 a3 S k) n9 : Nat → Int32 → Int32 → sSt → Prop) a1 a2 a3 S
theorem B_X12_isWord_24_s (n9 : Nat) (a1 : Nat) (a2 : Int32) (a3 : Int32) (S : sSt) (k : Int32 → sSt → Prop) : B_X12_isWord_24 (n9 + 1) a1 a2 a3 S k = Bb_X12_isWord_24 (fun a1 a2 a3 S => B_X12_isWord_24 n9 a1 a2 a3 S k) a1 a2 a3 S k := rfl
set_option maxHeartbeats 4000000 in
set_option maxRecDepth 100000 in
theorem Bw_X12_isWord_24 {p : Program} {l : Launch} {e : Env} {s : State} {m : MethodId} {args : Array Value} {below : List Frame} {meth : Method} {c : Code} {D : va_G} {cy : Nat → ClassId} {b z : Nat} {tx : TX} (C0 : CallFix p m c cX12_isWord 4 s args TB RX12) (hr : meth.sig.returnType = (some .boolean)) (hlk : meth.locks = false) (hT : TxR tx s) {k : Int32 → sSt → Prop} : ∀ (n9 : Nat), ∀ (a1 : Nat) (a2 : Int32) (a3 : Int32) (S : sSt) (H : Heap) (locs : List Loc) (ls : Array Slot) (av1 : a1 < nTx), B_X12_isWord_24 n9 a1 a2 a3 S k → RelM D cy b z tx S s H → va_S (gA b 12 z) s.heap H locs → lv_has ls 4 [(0, .ref (b + adM 0 0)), (1, .ref (tx.2.1 a1)), (2, .int a2), (3, .int a3)] → W p l e rm_X12_isWord s m args below meth c H locs 0 0 (MQ below (PiM D cy b z tx k) args s 0 0 (gA b 12 z)) (F0 m 24 ls []) := by
  intro n9
  induction n9 with
  | zero => intro a1 a2 a3 S H locs ls av1 h; exact h.elim
  | succ n9 ih =>
    intro a1 a2 a3 S H locs ls av1 h hR hS hl
    exact Bbw_X12_isWord_24 C0 hr hlk hT ih a1 a2 a3 S H locs ls av1 h hR hS hl
def B_X12_isWord_21 (a1 : Nat) (t0 : Int32) (S : sSt) (k : Int32 → sSt → Prop) : Prop := B_X12_isWord_24 fuel a1 t0 0 S k
set_option maxHeartbeats 4000000 in
set_option maxRecDepth 100000 in
theorem Bw_X12_isWord_21 {p : Program} {l : Launch} {e : Env} {s : State} {m : MethodId} {args : Array Value} {below : List Frame} {meth : Method} {c : Code} {D : va_G} {cy : Nat → ClassId} {b z : Nat} {tx : TX} (C0 : CallFix p m c cX12_isWord 4 s args TB RX12) (hr : meth.sig.returnType = (some .boolean)) (hlk : meth.locks = false) (hT : TxR tx s) {k : Int32 → sSt → Prop} : ∀ (a1 : Nat) (t0 : Int32) (S : sSt) (H : Heap) (locs : List Loc) (ls : Array Slot) (av1 : a1 < nTx), B_X12_isWord_21 a1 t0 S k → RelM D cy b z tx S s H → va_S (gA b 12 z) s.heap H locs → lv_has ls 4 [(0, .ref (b + adM 0 0)), (1, .ref (tx.2.1 a1))] → W p l e rm_X12_isWord s m args below meth c H locs 0 0 (MQ below (PiM D cy b z tx k) args s 0 0 (gA b 12 z)) (F0 m 21 ls [.int t0]) := by
  intro a1 t0 S H locs ls av1 h hR hS hl
  have hx := C0.1
  have hb := C0.2.1
  unfold B_X12_isWord_21 at h
  refine lv_istore_n (lv' := [(2, .int t0), (0, .ref (b + adM 0 0)), (1, .ref (tx.2.1 a1))]) hx hb dX12_isWord_21 rfl hl (by decide) rfl (fun ls hl => ?_)
  refine lv_iconst (v := 0) hx hb dX12_isWord_22 (by decide) ?_
  refine lv_istore_n (lv' := [(3, .int 0), (2, .int t0), (0, .ref (b + adM 0 0)), (1, .ref (tx.2.1 a1))]) hx hb dX12_isWord_23 rfl hl (by decide) rfl (fun ls hl => ?_)
  exact Bw_X12_isWord_24 C0 hr hlk hT fuel a1 t0 0 S _ _ _ av1 h hR hS (lv_sub hl [2, 3, 1, 0] rfl)
def F_X12_isWord (a1 : Nat) (S : sSt) (k : Int32 → sSt → Prop) : Prop := ((¬ ((S.1 0 0 10) - (S.1 0 0 12)) = (nI (lenTx.getD a1 0)) → B_X12_isWord_21 a1 0 S k) ∧ (((S.1 0 0 10) - (S.1 0 0 12)) = (nI (lenTx.getD a1 0)) → B_X12_isWord_21 a1 1 S k))
set_option maxHeartbeats 4000000 in
set_option maxRecDepth 100000 in
theorem c_X12_isWord (l : Launch) {D : va_G} {cy : Nat → ClassId} {b z : Nat} {tx : TX} {a1 : Nat} {S : sSt} {k : Int32 → sSt → Prop} (av1 : a1 < nTx) (h : F_X12_isWord a1 S k) : Met l yX12_isWord (Cond.code yX12_isWord cX12_isWord 4 (some .boolean) :: TB) rm_X12_isWord (va_Pc [.ref (b + adM 0 0), .ref (tx.2.1 a1)] (fun U => RelM D cy b z tx S U U.heap ∧ TxR tx U)) (PiM D cy b z tx k) 0 0 (gA b 12 z) := by
  refine Met.ofW (cc := cX12_isWord) (maxL := 4) (ret := (some .boolean)) (by decide) rfl ?_
  intro p e s m args below meth c s₁ B hml hv
  obtain ⟨rfl, hR, hT⟩ := hv
  have C0 : CallFix p m c cX12_isWord 4 s _ TB RX12 := ⟨B.exec, B.bytes, hml, findClass_of_methodNamed B.named, fun w hw => atoms_spec B.pre w (List.mem_cons_of_mem _ hw)⟩
  have hr := B.returns
  have hlk := B.notSynchronized
  have hx := C0.1
  have hb := C0.2.1
  have hS : va_S (gA b 12 z) s.heap s.heap [] := va_S.rf
  have hl := lv_entry ([.ref (b + adM 0 0), .ref (tx.2.1 a1)]) (n := 4) (Nat.le_of_ble_eq_true rfl)
  rw [lg_entry_eq]
  generalize (lg_sl ([.ref (b + adM 0 0), .ref (tx.2.1 a1)]) ++ List.replicate (4 - (lg_sl ([.ref (b + adM 0 0), .ref (tx.2.1 a1)])).length) Slot.unset).toArray = ls at hl ⊢
  have hl : lv_has ls 4 [(0, .ref (b + adM 0 0)), (1, .ref (tx.2.1 a1))] := hl
  show W p l e rm_X12_isWord s m _ below meth c s.heap [] 0 0 (MQ below (PiM D cy b z tx k) _ s 0 0 (gA b 12 z)) _
  unfold F_X12_isWord at h
  refine lv_aload_n hx hb dX12_isWord_0 rfl (lv_at hl 0 rfl) ?_
  refine gM_0_10 C0 hR Nat.zero_lt_one tbs_wsX120 mM1_7_87 dX12_isWord_1 ?_
  refine lv_aload_n hx hb dX12_isWord_4 rfl (lv_at hl 0 rfl) ?_
  refine gM_0_12 C0 hR Nat.zero_lt_one tbs_wsX120 mM1_7_89 dX12_isWord_5 ?_
  refine lv_isub hx hb dX12_isWord_8 ?_
  refine lv_aload_n hx hb dX12_isWord_9 rfl (lv_at hl 1 rfl) ?_
  refine q_Jv (As := []) (rest := [.int ((S.1 0 0 10) - (S.1 0 0 12))]) C0 (c_J_length l av1) (cwV 0 C0.2.2.2.2 (tbV mM1_7_192 ⟨mM1_3_146, mM1_3_147, mM1_1_14, mM1_3_148⟩) rfl rfl rfl (by decide +kernel) ⟨Nat.le_of_ble_eq_true rfl, Nat.le_of_ble_eq_true rfl⟩) (tx_recv hR.2.2.2.2 av1) hR.2.2.2.2 hS rfl hl.1 rfl (Nat.le_of_ble_eq_true rfl) dX12_isWord_10 ⟨Nat.zero_le _, Nat.zero_le _⟩ (fun H locs hz9 hq9 hS => ?_)
  have hR := hR.stay hz9 hq9
  refine lv_icmp_ne (tgt := 20) hx hb dX12_isWord_13 (by decide) (fun c1 => ?_) (fun c1 => ?_)
  · have h := h.1 c1
    refine lv_iconst (v := 0) hx hb dX12_isWord_20 (by decide) ?_
    exact Bw_X12_isWord_21 C0 hr hlk hT a1 0 S _ _ _ av1 h hR hS (lv_sub hl [0, 1] rfl)
  · have h := h.2 c1
    refine lv_iconst (v := 1) hx hb dX12_isWord_16 (by decide) ?_
    refine lv_goto (tgt := 21) hx hb dX12_isWord_17 (by decide) ?_
    exact Bw_X12_isWord_21 C0 hr hlk hT a1 1 S _ _ _ av1 h hR hS (lv_sub hl [0, 1] rfl)

def rm_X12_passes : Room := { frames := 5, cells := 0, slots := 0, locals := 108 }
def F_X12_passes (a1 : Nat) (S : sSt) (k : Int32 → sSt → Prop) : Prop := F_X12_letters S (fun S2 => F_X12_isWord a1 S2 (fun r3 S4 => ((r3 = 0 → ∀ S6, S6 = uI S4 0 0 10 (S4.1 0 0 12) → k 0 S6) ∧ (¬ r3 = 0 → k 1 S4))))
set_option maxHeartbeats 4000000 in
set_option maxRecDepth 100000 in
theorem c_X12_passes (l : Launch) {D : va_G} {cy : Nat → ClassId} {b z : Nat} {tx : TX} {a1 : Nat} {S : sSt} {k : Int32 → sSt → Prop} (av1 : a1 < nTx) (h : F_X12_passes a1 S k) : Met l yX12_passes (Cond.code yX12_passes cX12_passes 2 (some .boolean) :: TB) rm_X12_passes (va_Pc [.ref (b + adM 0 0), .ref (tx.2.1 a1)] (fun U => RelM D cy b z tx S U U.heap ∧ TxR tx U)) (PiM D cy b z tx k) 0 0 (gA b 12 z) := by
  refine Met.ofW (cc := cX12_passes) (maxL := 2) (ret := (some .boolean)) (by decide) rfl ?_
  intro p e s m args below meth c s₁ B hml hv
  obtain ⟨rfl, hR, hT⟩ := hv
  have C0 : CallFix p m c cX12_passes 2 s _ TB RX12 := ⟨B.exec, B.bytes, hml, findClass_of_methodNamed B.named, fun w hw => atoms_spec B.pre w (List.mem_cons_of_mem _ hw)⟩
  have hr := B.returns
  have hlk := B.notSynchronized
  have hx := C0.1
  have hb := C0.2.1
  have hS : va_S (gA b 12 z) s.heap s.heap [] := va_S.rf
  have hl := lv_entry ([.ref (b + adM 0 0), .ref (tx.2.1 a1)]) (n := 2) (Nat.le_of_ble_eq_true rfl)
  rw [lg_entry_eq]
  generalize (lg_sl ([.ref (b + adM 0 0), .ref (tx.2.1 a1)]) ++ List.replicate (2 - (lg_sl ([.ref (b + adM 0 0), .ref (tx.2.1 a1)])).length) Slot.unset).toArray = ls at hl ⊢
  have hl : lv_has ls 2 [(0, .ref (b + adM 0 0)), (1, .ref (tx.2.1 a1))] := hl
  show W p l e rm_X12_passes s m _ below meth c s.heap [] 0 0 (MQ below (PiM D cy b z tx k) _ s 0 0 (gA b 12 z)) _
  unfold F_X12_passes at h
  refine lv_aload_n hx hb dX12_passes_0 rfl (lv_at hl 0 rfl) ?_
  refine qM_Vv (As := []) (rest := []) C0 (c_X12_letters l h) (cwV 0 C0.2.2.2.2 (tbV mM1_7_179 ⟨mM1_7_181, mpM1_2_14, mM1_1_11, mM1_7_182⟩) rfl rfl rfl (by decide +kernel) ⟨Nat.le_of_ble_eq_true rfl, Nat.le_of_ble_eq_true rfl⟩) (rcM_0 hR Nat.zero_lt_one) hR hT hS rfl hl.1 rfl (Nat.le_of_ble_eq_true rfl) dX12_passes_1 ⟨Nat.zero_le _, Nat.zero_le _⟩ (fun S2 H locs h hR hS => ?_)
  refine lv_aload_n hx hb dX12_passes_4 rfl (lv_at hl 0 rfl) ?_
  refine lv_aload_n hx hb dX12_passes_5 rfl (lv_at hl 1 rfl) ?_
  refine qM_Vi (As := [.ref (tx.2.1 a1)]) (rest := []) C0 (c_X12_isWord l av1 h) (cwV 1 C0.2.2.2.2 (tbV mM1_7_188 ⟨mM1_7_190, mpM1_3_0, mM1_1_11, mM1_7_191⟩) rfl rfl rfl (by decide +kernel) ⟨Nat.le_of_ble_eq_true rfl, Nat.le_of_ble_eq_true rfl⟩) (rcM_0 hR Nat.zero_lt_one) hR hT hS rfl hl.1 rfl (Nat.le_of_ble_eq_true rfl) dX12_passes_6 ⟨Nat.zero_le _, Nat.zero_le _⟩ (fun r3 S4 H locs h hR hS => ?_)
  refine lv_if_eq (tgt := 14) hx hb dX12_passes_9 (by decide) (fun c5 => ?_) (fun c5 => ?_)
  · have h := h.1 c5
    refine lv_aload_n hx hb dX12_passes_14 rfl (lv_at hl 0 rfl) ?_
    refine lv_aload_n hx hb dX12_passes_15 rfl (lv_at hl 0 rfl) ?_
    refine gM_0_12 C0 hR Nat.zero_lt_one tbs_wsX120 mM1_7_89 dX12_passes_16 ?_
    refine pM_0_10 C0 hR hS Nat.zero_lt_one tbs_wsX120 mM1_7_87 dX12_passes_19 (fun S6 eS6 H locs hR hS => ?_)
    have h := h S6 eS6
    refine lv_iconst (v := 0) hx hb dX12_passes_22 (by decide) ?_
    exact rtM_z C0 hr hlk hR hS (by decide) h dX12_passes_23
  · have h := h.2 c5
    refine lv_iconst (v := 1) hx hb dX12_passes_12 (by decide) ?_
    exact rtM_z C0 hr hlk hR hS (by decide) h dX12_passes_13

def rm_X12_sign : Room := { frames := 2, cells := 0, slots := 0, locals := 42 }
def F_X12_sign (a1 : Int32) (S : sSt) (k : Int32 → sSt → Prop) : Prop := F_X12_blanks S (fun S2 => F_X12_isAt a1 a1 S2 (fun r3 S4 => ((¬ r3 = 0 → ∀ S6, S6 = uI S4 0 0 10 ((S4.1 0 0 10) + 1) → k 1 S6) ∧ (r3 = 0 → k 0 S4))))
set_option maxHeartbeats 4000000 in
set_option maxRecDepth 100000 in
theorem c_X12_sign (l : Launch) {D : va_G} {cy : Nat → ClassId} {b z : Nat} {tx : TX} {a1 : Int32} {S : sSt} {k : Int32 → sSt → Prop} (h : F_X12_sign a1 S k) : Met l yX12_sign (Cond.code yX12_sign cX12_sign 2 (some .boolean) :: TB) rm_X12_sign (va_Pc [.ref (b + adM 0 0), .int a1] (fun U => RelM D cy b z tx S U U.heap ∧ TxR tx U)) (PiM D cy b z tx k) 0 0 (gA b 12 z) := by
  refine Met.ofW (cc := cX12_sign) (maxL := 2) (ret := (some .boolean)) (by decide) rfl ?_
  intro p e s m args below meth c s₁ B hml hv
  obtain ⟨rfl, hR, hT⟩ := hv
  have C0 : CallFix p m c cX12_sign 2 s _ TB RX12 := ⟨B.exec, B.bytes, hml, findClass_of_methodNamed B.named, fun w hw => atoms_spec B.pre w (List.mem_cons_of_mem _ hw)⟩
  have hr := B.returns
  have hlk := B.notSynchronized
  have hx := C0.1
  have hb := C0.2.1
  have hS : va_S (gA b 12 z) s.heap s.heap [] := va_S.rf
  have hl := lv_entry ([.ref (b + adM 0 0), .int a1]) (n := 2) (Nat.le_of_ble_eq_true rfl)
  rw [lg_entry_eq]
  generalize (lg_sl ([.ref (b + adM 0 0), .int a1]) ++ List.replicate (2 - (lg_sl ([.ref (b + adM 0 0), .int a1])).length) Slot.unset).toArray = ls at hl ⊢
  have hl : lv_has ls 2 [(0, .ref (b + adM 0 0)), (1, .int a1)] := hl
  show W p l e rm_X12_sign s m _ below meth c s.heap [] 0 0 (MQ below (PiM D cy b z tx k) _ s 0 0 (gA b 12 z)) _
  unfold F_X12_sign at h
  refine lv_aload_n hx hb dX12_sign_0 rfl (lv_at hl 0 rfl) ?_
  refine qM_Vv (As := []) (rest := []) C0 (c_X12_blanks l h) (cwV 0 C0.2.2.2.2 (tbV mM1_7_171 ⟨mM1_7_173, mpM1_2_12, mM1_1_11, mM1_7_174⟩) rfl rfl rfl (by decide +kernel) ⟨Nat.le_of_ble_eq_true rfl, Nat.le_of_ble_eq_true rfl⟩) (rcM_0 hR Nat.zero_lt_one) hR hT hS rfl hl.1 rfl (Nat.le_of_ble_eq_true rfl) dX12_sign_1 ⟨Nat.zero_le _, Nat.zero_le _⟩ (fun S2 H locs h hR hS => ?_)
  refine lv_aload_n hx hb dX12_sign_4 rfl (lv_at hl 0 rfl) ?_
  refine lv_iload_n hx hb dX12_sign_5 rfl (lv_at hl 1 rfl) ?_
  refine lv_iload_n hx hb dX12_sign_6 rfl (lv_at hl 1 rfl) ?_
  refine qM_Vi (As := [.int a1, .int a1]) (rest := []) C0 (c_X12_isAt l h) (cwV 2 C0.2.2.2.2 (tbV mM1_7_175 ⟨mM1_7_177, mpM1_2_13, mM1_1_11, mM1_7_178⟩) rfl rfl rfl (by decide +kernel) ⟨Nat.le_of_ble_eq_true rfl, Nat.le_of_ble_eq_true rfl⟩) (rcM_0 hR Nat.zero_lt_one) hR hT hS rfl hl.1 rfl (Nat.le_of_ble_eq_true rfl) dX12_sign_7 ⟨Nat.zero_le _, Nat.zero_le _⟩ (fun r3 S4 H locs h hR hS => ?_)
  refine lv_if_ne (tgt := 15) hx hb dX12_sign_10 (by decide) (fun c5 => ?_) (fun c5 => ?_)
  · have h := h.1 c5
    refine lv_aload_n hx hb dX12_sign_15 rfl (lv_at hl 0 rfl) ?_
    refine lv_dup hx hb dX12_sign_16 rfl ?_
    refine gM_0_10 C0 hR Nat.zero_lt_one tbs_wsX120 mM1_7_87 dX12_sign_17 ?_
    refine lv_iconst (v := 1) hx hb dX12_sign_20 (by decide) ?_
    refine lv_iadd hx hb dX12_sign_21 ?_
    refine pM_0_10 C0 hR hS Nat.zero_lt_one tbs_wsX120 mM1_7_87 dX12_sign_22 (fun S6 eS6 H locs hR hS => ?_)
    have h := h S6 eS6
    refine lv_iconst (v := 1) hx hb dX12_sign_25 (by decide) ?_
    exact rtM_z C0 hr hlk hR hS (by decide) h dX12_sign_26
  · have h := h.2 c5
    refine lv_iconst (v := 0) hx hb dX12_sign_13 (by decide) ?_
    exact rtM_z C0 hr hlk hR hS (by decide) h dX12_sign_14

def rm_X12_number : Room := { frames := 2, cells := 0, slots := 0, locals := 42 }
def B_X12_number_99 (S : sSt) (k : Int32 → sSt → Prop) : Prop := k (-1) S
set_option maxHeartbeats 4000000 in
set_option maxRecDepth 100000 in
theorem Bw_X12_number_99 {p : Program} {l : Launch} {e : Env} {s : State} {m : MethodId} {args : Array Value} {below : List Frame} {meth : Method} {c : Code} {D : va_G} {cy : Nat → ClassId} {b z : Nat} {tx : TX} (C0 : CallFix p m c cX12_number 4 s args TB RX12) (hr : meth.sig.returnType = (some .int)) (hlk : meth.locks = false) (hT : TxR tx s) {k : Int32 → sSt → Prop} : ∀ (S : sSt) (H : Heap) (locs : List Loc) (ls : Array Slot) , B_X12_number_99 S k → RelM D cy b z tx S s H → va_S (gA b 12 z) s.heap H locs → lv_has ls 4 [] → W p l e rm_X12_number s m args below meth c H locs 0 0 (MQ below (PiM D cy b z tx k) args s 0 0 (gA b 12 z)) (F0 m 99 ls []) := by
  intro S H locs ls h hR hS hl
  have hx := C0.1
  have hb := C0.2.1
  unfold B_X12_number_99 at h
  refine lv_iconst (v := (-1)) hx hb dX12_number_99 (by decide) ?_
  refine lv_goto (tgt := 104) hx hb dX12_number_100 (by decide) ?_
  exact rtM_i C0 hr hlk hR hS h dX12_number_104
def B_X12_number_51 (kk6 : Int32 → Int32 → Int32 → sSt → Prop) (a1 : Int32) (a2 : Int32) (t0 : Int32) (S : sSt) (k : Int32 → sSt → Prop) : Prop := ∀ S11, S11 = uI S 0 0 10 ((S.1 0 0 10) + 1) → kk6 a1 a2 t0 S11
set_option maxHeartbeats 4000000 in
set_option maxRecDepth 100000 in
theorem Bw_X12_number_51 {p : Program} {l : Launch} {e : Env} {s : State} {m : MethodId} {args : Array Value} {below : List Frame} {meth : Method} {c : Code} {D : va_G} {cy : Nat → ClassId} {b z : Nat} {tx : TX} (C0 : CallFix p m c cX12_number 4 s args TB RX12) (hr : meth.sig.returnType = (some .int)) (hlk : meth.locks = false) (hT : TxR tx s) {k : Int32 → sSt → Prop} {kk6 : Int32 → Int32 → Int32 → sSt → Prop} (ih6 : ∀ (a1 : Int32) (a2 : Int32) (a3 : Int32) (S : sSt) (H : Heap) (locs : List Loc) (ls : Array Slot) , kk6 a1 a2 a3 S → RelM D cy b z tx S s H → va_S (gA b 12 z) s.heap H locs → lv_has ls 4 [(0, .ref (b + adM 0 0)), (1, .int a1), (2, .int a2), (3, .int a3)] → W p l e rm_X12_number s m args below meth c H locs 0 0 (MQ below (PiM D cy b z tx k) args s 0 0 (gA b 12 z)) (F0 m 6 ls [])) : ∀ (a1 : Int32) (a2 : Int32) (t0 : Int32) (S : sSt) (H : Heap) (locs : List Loc) (ls : Array Slot) , B_X12_number_51 kk6 a1 a2 t0 S k → RelM D cy b z tx S s H → va_S (gA b 12 z) s.heap H locs → lv_has ls 4 [(0, .ref (b + adM 0 0)), (1, .int a1), (2, .int a2)] → W p l e rm_X12_number s m args below meth c H locs 0 0 (MQ below (PiM D cy b z tx k) args s 0 0 (gA b 12 z)) (F0 m 51 ls [.int t0]) := by
  intro a1 a2 t0 S H locs ls h hR hS hl
  have hx := C0.1
  have hb := C0.2.1
  unfold B_X12_number_51 at h
  refine lv_istore_n (lv' := [(3, .int t0), (0, .ref (b + adM 0 0)), (1, .int a1), (2, .int a2)]) hx hb dX12_number_51 rfl hl (by decide) rfl (fun ls hl => ?_)
  refine lv_aload_n hx hb dX12_number_52 rfl (lv_at hl 1 rfl) ?_
  refine lv_dup hx hb dX12_number_53 rfl ?_
  refine gM_0_10 C0 hR Nat.zero_lt_one tbs_wsX120 mM1_7_87 dX12_number_54 ?_
  refine lv_iconst (v := 1) hx hb dX12_number_57 (by decide) ?_
  refine lv_iadd hx hb dX12_number_58 ?_
  refine pM_0_10 C0 hR hS Nat.zero_lt_one tbs_wsX120 mM1_7_87 dX12_number_59 (fun S11 eS11 H locs hR hS => ?_)
  have h := h S11 eS11
  refine lv_goto (tgt := 6) hx hb dX12_number_62 (by decide) ?_
  exact ih6 a1 a2 t0 S11 _ _ _  h hR hS (lv_sub hl [1, 2, 3, 0] rfl)
def Bb_X12_number_6 (kk6 : Int32 → Int32 → Int32 → sSt → Prop) (a1 : Int32) (a2 : Int32) (a3 : Int32) (S : sSt) (k : Int32 → sSt → Prop) : Prop := F_X12_isAt 48 57 S (fun r3 S4 => ((r3 = 0 → (((S4.1 0 0 10) = (S4.1 0 0 12) → B_X12_number_99 S4 k) ∧ (¬ (S4.1 0 0 10) = (S4.1 0 0 12) → ((3 < ((S4.1 0 0 10) - (S4.1 0 0 12)) → B_X12_number_99 S4 k) ∧ (¬ 3 < ((S4.1 0 0 10) - (S4.1 0 0 12)) → ((a3 < a1 → B_X12_number_99 S4 k) ∧ (¬ a3 < a1 → ((a3 ≤ a2 → k a3 S4) ∧ (¬ a3 ≤ a2 → B_X12_number_99 S4 k))))))))) ∧ (¬ r3 = 0 → ((3 ≤ ((S4.1 0 0 10) - (S4.1 0 0 12)) → B_X12_number_51 kk6 a1 a2 a3 S4 k) ∧ (¬ 3 ≤ ((S4.1 0 0 10) - (S4.1 0 0 12)) → ix (S4.1 0 0 10) 400 (fun j12 => B_X12_number_51 kk6 a1 a2 (((10 * a3) + (S4.1 6 0 j12)) - 48) S4 k))))))
set_option maxHeartbeats 4000000 in
set_option maxRecDepth 100000 in
theorem Bbw_X12_number_6 {p : Program} {l : Launch} {e : Env} {s : State} {m : MethodId} {args : Array Value} {below : List Frame} {meth : Method} {c : Code} {D : va_G} {cy : Nat → ClassId} {b z : Nat} {tx : TX} (C0 : CallFix p m c cX12_number 4 s args TB RX12) (hr : meth.sig.returnType = (some .int)) (hlk : meth.locks = false) (hT : TxR tx s) {k : Int32 → sSt → Prop} {kk6 : Int32 → Int32 → Int32 → sSt → Prop} (ih6 : ∀ (a1 : Int32) (a2 : Int32) (a3 : Int32) (S : sSt) (H : Heap) (locs : List Loc) (ls : Array Slot) , kk6 a1 a2 a3 S → RelM D cy b z tx S s H → va_S (gA b 12 z) s.heap H locs → lv_has ls 4 [(0, .ref (b + adM 0 0)), (1, .int a1), (2, .int a2), (3, .int a3)] → W p l e rm_X12_number s m args below meth c H locs 0 0 (MQ below (PiM D cy b z tx k) args s 0 0 (gA b 12 z)) (F0 m 6 ls [])) : ∀ (a1 : Int32) (a2 : Int32) (a3 : Int32) (S : sSt) (H : Heap) (locs : List Loc) (ls : Array Slot) , Bb_X12_number_6 kk6 a1 a2 a3 S k → RelM D cy b z tx S s H → va_S (gA b 12 z) s.heap H locs → lv_has ls 4 [(0, .ref (b + adM 0 0)), (1, .int a1), (2, .int a2), (3, .int a3)] → W p l e rm_X12_number s m args below meth c H locs 0 0 (MQ below (PiM D cy b z tx k) args s 0 0 (gA b 12 z)) (F0 m 6 ls []) := by
  intro a1 a2 a3 S H locs ls h hR hS hl
  have hx := C0.1
  have hb := C0.2.1
  unfold Bb_X12_number_6 at h
  refine lv_aload_n hx hb dX12_number_6 rfl (lv_at hl 0 rfl) ?_
  refine lv_bipush (v := 48) hx hb dX12_number_7 (by decide) ?_
  refine lv_bipush (v := 57) hx hb dX12_number_9 (by decide) ?_
  refine qM_Vi (As := [.int 48, .int 57]) (rest := []) C0 (c_X12_isAt l h) (cwV 2 C0.2.2.2.2 (tbV mM1_7_175 ⟨mM1_7_177, mpM1_2_13, mM1_1_11, mM1_7_178⟩) rfl rfl rfl (by decide +kernel) ⟨Nat.le_of_ble_eq_true rfl, Nat.le_of_ble_eq_true rfl⟩) (rcM_0 hR Nat.zero_lt_one) hR hT hS rfl hl.1 rfl (Nat.le_of_ble_eq_true rfl) dX12_number_11 ⟨Nat.zero_le _, Nat.zero_le _⟩ (fun r3 S4 H locs h hR hS => ?_)
  refine lv_if_eq (tgt := 65) hx hb dX12_number_14 (by decide) (fun c5 => ?_) (fun c5 => ?_)
  · have h := h.1 c5
    refine lv_aload_n hx hb dX12_number_65 rfl (lv_at hl 0 rfl) ?_
    refine gM_0_10 C0 hR Nat.zero_lt_one tbs_wsX120 mM1_7_87 dX12_number_66 ?_
    refine lv_aload_n hx hb dX12_number_69 rfl (lv_at hl 0 rfl) ?_
    refine gM_0_12 C0 hR Nat.zero_lt_one tbs_wsX120 mM1_7_89 dX12_number_70 ?_
    refine lv_icmp_eq (tgt := 99) hx hb dX12_number_73 (by decide) (fun c6 => ?_) (fun c6 => ?_)
    · have h := h.1 c6
      exact Bw_X12_number_99 C0 hr hlk hT S4 _ _ _ h hR hS (lv_sub hl [] rfl)
    · have h := h.2 c6
      refine lv_aload_n hx hb dX12_number_76 rfl (lv_at hl 0 rfl) ?_
      refine gM_0_10 C0 hR Nat.zero_lt_one tbs_wsX120 mM1_7_87 dX12_number_77 ?_
      refine lv_aload_n hx hb dX12_number_80 rfl (lv_at hl 0 rfl) ?_
      refine gM_0_12 C0 hR Nat.zero_lt_one tbs_wsX120 mM1_7_89 dX12_number_81 ?_
      refine lv_isub hx hb dX12_number_84 ?_
      refine lv_iconst (v := 3) hx hb dX12_number_85 (by decide) ?_
      refine lv_icmp_gt (tgt := 99) hx hb dX12_number_86 (by decide) (fun c7 => ?_) (fun c7 => ?_)
      · have h := h.1 c7
        exact Bw_X12_number_99 C0 hr hlk hT S4 _ _ _ h hR hS (lv_sub hl [] rfl)
      · have h := h.2 c7
        refine lv_iload_n hx hb dX12_number_89 rfl (lv_at hl 3 rfl) ?_
        refine lv_iload_n hx hb dX12_number_90 rfl (lv_at hl 1 rfl) ?_
        refine lv_icmp_lt (tgt := 99) hx hb dX12_number_91 (by decide) (fun c8 => ?_) (fun c8 => ?_)
        · have h := h.1 c8
          exact Bw_X12_number_99 C0 hr hlk hT S4 _ _ _ h hR hS (lv_sub hl [] rfl)
        · have h := h.2 c8
          refine lv_iload_n hx hb dX12_number_94 rfl (lv_at hl 3 rfl) ?_
          refine lv_iload_n hx hb dX12_number_95 rfl (lv_at hl 2 rfl) ?_
          refine lv_icmp_le (tgt := 103) hx hb dX12_number_96 (by decide) (fun c9 => ?_) (fun c9 => ?_)
          · have h := h.1 c9
            refine lv_iload_n hx hb dX12_number_103 rfl (lv_at hl 3 rfl) ?_
            exact rtM_i C0 hr hlk hR hS h dX12_number_104
          · have h := h.2 c9
            exact Bw_X12_number_99 C0 hr hlk hT S4 _ _ _ h hR hS (lv_sub hl [] rfl)
  · have h := h.2 c5
    refine lv_aload_n hx hb dX12_number_17 rfl (lv_at hl 0 rfl) ?_
    refine gM_0_10 C0 hR Nat.zero_lt_one tbs_wsX120 mM1_7_87 dX12_number_18 ?_
    refine lv_aload_n hx hb dX12_number_21 rfl (lv_at hl 0 rfl) ?_
    refine gM_0_12 C0 hR Nat.zero_lt_one tbs_wsX120 mM1_7_89 dX12_number_22 ?_
    refine lv_isub hx hb dX12_number_25 ?_
    refine lv_iconst (v := 3) hx hb dX12_number_26 (by decide) ?_
    refine lv_icmp_ge (tgt := 50) hx hb dX12_number_27 (by decide) (fun c10 => ?_) (fun c10 => ?_)
    · have h := h.1 c10
      refine lv_iload_n hx hb dX12_number_50 rfl (lv_at hl 3 rfl) ?_
      exact Bw_X12_number_51 C0 hr hlk hT ih6 a1 a2 a3 S4 _ _ _ h hR hS (lv_sub hl [0, 1, 2] rfl)
    · have h := h.2 c10
      refine lv_bipush (v := 10) hx hb dX12_number_30 (by decide) ?_
      refine lv_iload_n hx hb dX12_number_32 rfl (lv_at hl 3 rfl) ?_
      refine lv_imul hx hb dX12_number_33 ?_
      refine lv_aload_n hx hb dX12_number_34 rfl (lv_at hl 0 rfl) ?_
      refine gM_0_8 C0 hR Nat.zero_lt_one tbs_wsX120 mM1_7_85 dX12_number_35 ?_
      refine lv_aload_n hx hb dX12_number_38 rfl (lv_at hl 0 rfl) ?_
      refine gM_0_10 C0 hR Nat.zero_lt_one tbs_wsX120 mM1_7_87 dX12_number_39 ?_
      obtain ⟨j12, hj12, ej12, h⟩ := h
      refine lM_6 C0 hR Nat.zero_lt_one hj12 ej12 dX12_number_42 ?_
      refine lv_iadd hx hb dX12_number_43 ?_
      refine lv_bipush (v := 48) hx hb dX12_number_44 (by decide) ?_
      refine lv_isub hx hb dX12_number_46 ?_
      refine lv_goto (tgt := 51) hx hb dX12_number_47 (by decide) ?_
      exact Bw_X12_number_51 C0 hr hlk hT ih6 a1 a2 (((10 * a3) + (S4.1 6 0 j12)) - 48) S4 _ _ _ h hR hS (lv_sub hl [0, 1, 2] rfl)
def B_X12_number_6 (n9 : Nat) (a1 : Int32) (a2 : Int32) (a3 : Int32) (S : sSt) (k : Int32 → sSt → Prop) : Prop := (Nat.rec (motive := fun _ => Int32 → Int32 → Int32 → sSt → Prop) (fun _ _ _ _ => False) (fun _ r9 => fun a1 a2 a3 S => Bb_X12_number_6 r9 a1 a2 a3 S k) n9 : Int32 → Int32 → Int32 → sSt → Prop) a1 a2 a3 S
theorem B_X12_number_6_s (n9 : Nat) (a1 : Int32) (a2 : Int32) (a3 : Int32) (S : sSt) (k : Int32 → sSt → Prop) : B_X12_number_6 (n9 + 1) a1 a2 a3 S k = Bb_X12_number_6 (fun a1 a2 a3 S => B_X12_number_6 n9 a1 a2 a3 S k) a1 a2 a3 S k := rfl
set_option maxHeartbeats 4000000 in
set_option maxRecDepth 100000 in
theorem Bw_X12_number_6 {p : Program} {l : Launch} {e : Env} {s : State} {m : MethodId} {args : Array Value} {below : List Frame} {meth : Method} {c : Code} {D : va_G} {cy : Nat → ClassId} {b z : Nat} {tx : TX} (C0 : CallFix p m c cX12_number 4 s args TB RX12) (hr : meth.sig.returnType = (some .int)) (hlk : meth.locks = false) (hT : TxR tx s) {k : Int32 → sSt → Prop} : ∀ (n9 : Nat), ∀ (a1 : Int32) (a2 : Int32) (a3 : Int32) (S : sSt) (H : Heap) (locs : List Loc) (ls : Array Slot) , B_X12_number_6 n9 a1 a2 a3 S k → RelM D cy b z tx S s H → va_S (gA b 12 z) s.heap H locs → lv_has ls 4 [(0, .ref (b + adM 0 0)), (1, .int a1), (2, .int a2), (3, .int a3)] → W p l e rm_X12_number s m args below meth c H locs 0 0 (MQ below (PiM D cy b z tx k) args s 0 0 (gA b 12 z)) (F0 m 6 ls []) := by
  intro n9
  induction n9 with
  | zero => intro a1 a2 a3 S H locs ls h; exact h.elim
  | succ n9 ih =>
    intro a1 a2 a3 S H locs ls h hR hS hl
    exact Bbw_X12_number_6 C0 hr hlk hT ih a1 a2 a3 S H locs ls h hR hS hl
def F_X12_number (a1 : Int32) (a2 : Int32) (S : sSt) (k : Int32 → sSt → Prop) : Prop := F_X12_blanks S (fun S2 => B_X12_number_6 fuel a1 a2 0 S2 k)
set_option maxHeartbeats 4000000 in
set_option maxRecDepth 100000 in
theorem c_X12_number (l : Launch) {D : va_G} {cy : Nat → ClassId} {b z : Nat} {tx : TX} {a1 : Int32} {a2 : Int32} {S : sSt} {k : Int32 → sSt → Prop} (h : F_X12_number a1 a2 S k) : Met l yX12_number (Cond.code yX12_number cX12_number 4 (some .int) :: TB) rm_X12_number (va_Pc [.ref (b + adM 0 0), .int a1, .int a2] (fun U => RelM D cy b z tx S U U.heap ∧ TxR tx U)) (PiM D cy b z tx k) 0 0 (gA b 12 z) := by
  refine Met.ofW (cc := cX12_number) (maxL := 4) (ret := (some .int)) (by decide) rfl ?_
  intro p e s m args below meth c s₁ B hml hv
  obtain ⟨rfl, hR, hT⟩ := hv
  have C0 : CallFix p m c cX12_number 4 s _ TB RX12 := ⟨B.exec, B.bytes, hml, findClass_of_methodNamed B.named, fun w hw => atoms_spec B.pre w (List.mem_cons_of_mem _ hw)⟩
  have hr := B.returns
  have hlk := B.notSynchronized
  have hx := C0.1
  have hb := C0.2.1
  have hS : va_S (gA b 12 z) s.heap s.heap [] := va_S.rf
  have hl := lv_entry ([.ref (b + adM 0 0), .int a1, .int a2]) (n := 4) (Nat.le_of_ble_eq_true rfl)
  rw [lg_entry_eq]
  generalize (lg_sl ([.ref (b + adM 0 0), .int a1, .int a2]) ++ List.replicate (4 - (lg_sl ([.ref (b + adM 0 0), .int a1, .int a2])).length) Slot.unset).toArray = ls at hl ⊢
  have hl : lv_has ls 4 [(0, .ref (b + adM 0 0)), (1, .int a1), (2, .int a2)] := hl
  show W p l e rm_X12_number s m _ below meth c s.heap [] 0 0 (MQ below (PiM D cy b z tx k) _ s 0 0 (gA b 12 z)) _
  unfold F_X12_number at h
  refine lv_aload_n hx hb dX12_number_0 rfl (lv_at hl 0 rfl) ?_
  refine qM_Vv (As := []) (rest := []) C0 (c_X12_blanks l h) (cwV 0 C0.2.2.2.2 (tbV mM1_7_171 ⟨mM1_7_173, mpM1_2_12, mM1_1_11, mM1_7_174⟩) rfl rfl rfl (by decide +kernel) ⟨Nat.le_of_ble_eq_true rfl, Nat.le_of_ble_eq_true rfl⟩) (rcM_0 hR Nat.zero_lt_one) hR hT hS rfl hl.1 rfl (Nat.le_of_ble_eq_true rfl) dX12_number_1 ⟨Nat.zero_le _, Nat.zero_le _⟩ (fun S2 H locs h hR hS => ?_)
  refine lv_iconst (v := 0) hx hb dX12_number_4 (by decide) ?_
  refine lv_istore_n (lv' := [(3, .int 0), (0, .ref (b + adM 0 0)), (1, .int a1), (2, .int a2)]) hx hb dX12_number_5 rfl hl (by decide) rfl (fun ls hl => ?_)
  exact Bw_X12_number_6 C0 hr hlk hT fuel a1 a2 0 S2 _ _ _ h hR hS (lv_sub hl [1, 2, 3, 0] rfl)

def rm_X12_behind : Room := { frames := 5, cells := 0, slots := 0, locals := 108 }
def F_X12_behind (a1 : Nat) (a2 : Int32) (a3 : Int32) (S : sSt) (k : Int32 → sSt → Prop) : Prop := F_X12_letters S (fun S2 => F_X12_isWord a1 S2 (fun r3 S4 => ((r3 = 0 → k (-1) S4) ∧ (¬ r3 = 0 → F_X12_number a2 a3 S4 (fun r6 S7 => k r6 S7)))))
set_option maxHeartbeats 4000000 in
set_option maxRecDepth 100000 in
theorem c_X12_behind (l : Launch) {D : va_G} {cy : Nat → ClassId} {b z : Nat} {tx : TX} {a1 : Nat} {a2 : Int32} {a3 : Int32} {S : sSt} {k : Int32 → sSt → Prop} (av1 : a1 < nTx) (h : F_X12_behind a1 a2 a3 S k) : Met l yX12_behind (Cond.code yX12_behind cX12_behind 4 (some .int) :: TB) rm_X12_behind (va_Pc [.ref (b + adM 0 0), .ref (tx.2.1 a1), .int a2, .int a3] (fun U => RelM D cy b z tx S U U.heap ∧ TxR tx U)) (PiM D cy b z tx k) 0 0 (gA b 12 z) := by
  refine Met.ofW (cc := cX12_behind) (maxL := 4) (ret := (some .int)) (by decide) rfl ?_
  intro p e s m args below meth c s₁ B hml hv
  obtain ⟨rfl, hR, hT⟩ := hv
  have C0 : CallFix p m c cX12_behind 4 s _ TB RX12 := ⟨B.exec, B.bytes, hml, findClass_of_methodNamed B.named, fun w hw => atoms_spec B.pre w (List.mem_cons_of_mem _ hw)⟩
  have hr := B.returns
  have hlk := B.notSynchronized
  have hx := C0.1
  have hb := C0.2.1
  have hS : va_S (gA b 12 z) s.heap s.heap [] := va_S.rf
  have hl := lv_entry ([.ref (b + adM 0 0), .ref (tx.2.1 a1), .int a2, .int a3]) (n := 4) (Nat.le_of_ble_eq_true rfl)
  rw [lg_entry_eq]
  generalize (lg_sl ([.ref (b + adM 0 0), .ref (tx.2.1 a1), .int a2, .int a3]) ++ List.replicate (4 - (lg_sl ([.ref (b + adM 0 0), .ref (tx.2.1 a1), .int a2, .int a3])).length) Slot.unset).toArray = ls at hl ⊢
  have hl : lv_has ls 4 [(0, .ref (b + adM 0 0)), (1, .ref (tx.2.1 a1)), (2, .int a2), (3, .int a3)] := hl
  show W p l e rm_X12_behind s m _ below meth c s.heap [] 0 0 (MQ below (PiM D cy b z tx k) _ s 0 0 (gA b 12 z)) _
  unfold F_X12_behind at h
  refine lv_aload_n hx hb dX12_behind_0 rfl (lv_at hl 0 rfl) ?_
  refine qM_Vv (As := []) (rest := []) C0 (c_X12_letters l h) (cwV 0 C0.2.2.2.2 (tbV mM1_7_179 ⟨mM1_7_181, mpM1_2_14, mM1_1_11, mM1_7_182⟩) rfl rfl rfl (by decide +kernel) ⟨Nat.le_of_ble_eq_true rfl, Nat.le_of_ble_eq_true rfl⟩) (rcM_0 hR Nat.zero_lt_one) hR hT hS rfl hl.1 rfl (Nat.le_of_ble_eq_true rfl) dX12_behind_1 ⟨Nat.zero_le _, Nat.zero_le _⟩ (fun S2 H locs h hR hS => ?_)
  refine lv_aload_n hx hb dX12_behind_4 rfl (lv_at hl 0 rfl) ?_
  refine lv_aload_n hx hb dX12_behind_5 rfl (lv_at hl 1 rfl) ?_
  refine qM_Vi (As := [.ref (tx.2.1 a1)]) (rest := []) C0 (c_X12_isWord l av1 h) (cwV 1 C0.2.2.2.2 (tbV mM1_7_188 ⟨mM1_7_190, mpM1_3_0, mM1_1_11, mM1_7_191⟩) rfl rfl rfl (by decide +kernel) ⟨Nat.le_of_ble_eq_true rfl, Nat.le_of_ble_eq_true rfl⟩) (rcM_0 hR Nat.zero_lt_one) hR hT hS rfl hl.1 rfl (Nat.le_of_ble_eq_true rfl) dX12_behind_6 ⟨Nat.zero_le _, Nat.zero_le _⟩ (fun r3 S4 H locs h hR hS => ?_)
  refine lv_if_eq (tgt := 21) hx hb dX12_behind_9 (by decide) (fun c5 => ?_) (fun c5 => ?_)
  · have h := h.1 c5
    refine lv_iconst (v := (-1)) hx hb dX12_behind_21 (by decide) ?_
    exact rtM_i C0 hr hlk hR hS h dX12_behind_22
  · have h := h.2 c5
    refine lv_aload_n hx hb dX12_behind_12 rfl (lv_at hl 0 rfl) ?_
    refine lv_iload_n hx hb dX12_behind_13 rfl (lv_at hl 2 rfl) ?_
    refine lv_iload_n hx hb dX12_behind_14 rfl (lv_at hl 3 rfl) ?_
    refine qM_Vi (As := [.int a2, .int a3]) (rest := []) C0 (c_X12_number l h) (cwV 2 C0.2.2.2.2 (tbV mM1_7_211 ⟨mM1_7_213, mpM1_3_5, mM1_1_11, mM1_7_214⟩) rfl rfl rfl (by decide +kernel) ⟨Nat.le_of_ble_eq_true rfl, Nat.le_of_ble_eq_true rfl⟩) (rcM_0 hR Nat.zero_lt_one) hR hT hS rfl hl.1 rfl (Nat.le_of_ble_eq_true rfl) dX12_behind_15 ⟨Nat.zero_le _, Nat.zero_le _⟩ (fun r6 S7 H locs h hR hS => ?_)
    refine lv_goto (tgt := 22) hx hb dX12_behind_18 (by decide) ?_
    exact rtM_i C0 hr hlk hR hS h dX12_behind_22

def rm_X12_fault : Room := { frames := 0, cells := 0, slots := 0, locals := 0 }
def F_X12_fault (S : sSt) (k : Int32 → sSt → Prop) : Prop := ∀ S1, S1 = uI S 0 0 0 0 → k (S1.1 0 0 13) S1
set_option maxHeartbeats 4000000 in
set_option maxRecDepth 100000 in
theorem c_X12_fault (l : Launch) {D : va_G} {cy : Nat → ClassId} {b z : Nat} {tx : TX} {S : sSt} {k : Int32 → sSt → Prop} (h : F_X12_fault S k) : Met l yX12_fault (Cond.code yX12_fault cX12_fault 1 (some .int) :: TB) rm_X12_fault (va_Pc [.ref (b + adM 0 0)] (fun U => RelM D cy b z tx S U U.heap ∧ TxR tx U)) (PiM D cy b z tx k) 0 0 (gA b 12 z) := by
  refine Met.ofW (cc := cX12_fault) (maxL := 1) (ret := (some .int)) (by decide) rfl ?_
  intro p e s m args below meth c s₁ B hml hv
  obtain ⟨rfl, hR, hT⟩ := hv
  have C0 : CallFix p m c cX12_fault 1 s _ TB RX12 := ⟨B.exec, B.bytes, hml, findClass_of_methodNamed B.named, fun w hw => atoms_spec B.pre w (List.mem_cons_of_mem _ hw)⟩
  have hr := B.returns
  have hlk := B.notSynchronized
  have hx := C0.1
  have hb := C0.2.1
  have hS : va_S (gA b 12 z) s.heap s.heap [] := va_S.rf
  have hl := lv_entry ([.ref (b + adM 0 0)]) (n := 1) (Nat.le_of_ble_eq_true rfl)
  rw [lg_entry_eq]
  generalize (lg_sl ([.ref (b + adM 0 0)]) ++ List.replicate (1 - (lg_sl ([.ref (b + adM 0 0)])).length) Slot.unset).toArray = ls at hl ⊢
  have hl : lv_has ls 1 [(0, .ref (b + adM 0 0))] := hl
  show W p l e rm_X12_fault s m _ below meth c s.heap [] 0 0 (MQ below (PiM D cy b z tx k) _ s 0 0 (gA b 12 z)) _
  unfold F_X12_fault at h
  refine lv_aload_n hx hb dX12_fault_0 rfl (lv_at hl 0 rfl) ?_
  refine lv_iconst (v := 0) hx hb dX12_fault_1 (by decide) ?_
  refine pM_0_0 C0 hR hS Nat.zero_lt_one tbs_wsX120 mM1_7_77 dX12_fault_2 (fun S1 eS1 H locs hR hS => ?_)
  have h := h S1 eS1
  refine lv_aload_n hx hb dX12_fault_5 rfl (lv_at hl 0 rfl) ?_
  refine gM_0_13 C0 hR Nat.zero_lt_one tbs_wsX120 mM1_7_90 dX12_fault_6 ?_
  exact rtM_i C0 hr hlk hR hS h dX12_fault_9

def rm_X12_why : Room := { frames := 0, cells := 0, slots := 0, locals := 0 }
def F_X12_why (S : sSt) (k : Int32 → sSt → Prop) : Prop := ∀ S1, S1 = uI S 0 0 0 0 → k (S1.1 0 0 1) S1
set_option maxHeartbeats 4000000 in
set_option maxRecDepth 100000 in
theorem c_X12_why (l : Launch) {D : va_G} {cy : Nat → ClassId} {b z : Nat} {tx : TX} {S : sSt} {k : Int32 → sSt → Prop} (h : F_X12_why S k) : Met l yX12_why (Cond.code yX12_why cX12_why 1 (some .int) :: TB) rm_X12_why (va_Pc [.ref (b + adM 0 0)] (fun U => RelM D cy b z tx S U U.heap ∧ TxR tx U)) (PiM D cy b z tx k) 0 0 (gA b 12 z) := by
  refine Met.ofW (cc := cX12_why) (maxL := 1) (ret := (some .int)) (by decide) rfl ?_
  intro p e s m args below meth c s₁ B hml hv
  obtain ⟨rfl, hR, hT⟩ := hv
  have C0 : CallFix p m c cX12_why 1 s _ TB RX12 := ⟨B.exec, B.bytes, hml, findClass_of_methodNamed B.named, fun w hw => atoms_spec B.pre w (List.mem_cons_of_mem _ hw)⟩
  have hr := B.returns
  have hlk := B.notSynchronized
  have hx := C0.1
  have hb := C0.2.1
  have hS : va_S (gA b 12 z) s.heap s.heap [] := va_S.rf
  have hl := lv_entry ([.ref (b + adM 0 0)]) (n := 1) (Nat.le_of_ble_eq_true rfl)
  rw [lg_entry_eq]
  generalize (lg_sl ([.ref (b + adM 0 0)]) ++ List.replicate (1 - (lg_sl ([.ref (b + adM 0 0)])).length) Slot.unset).toArray = ls at hl ⊢
  have hl : lv_has ls 1 [(0, .ref (b + adM 0 0))] := hl
  show W p l e rm_X12_why s m _ below meth c s.heap [] 0 0 (MQ below (PiM D cy b z tx k) _ s 0 0 (gA b 12 z)) _
  unfold F_X12_why at h
  refine lv_aload_n hx hb dX12_why_0 rfl (lv_at hl 0 rfl) ?_
  refine lv_iconst (v := 0) hx hb dX12_why_1 (by decide) ?_
  refine pM_0_0 C0 hR hS Nat.zero_lt_one tbs_wsX120 mM1_7_77 dX12_why_2 (fun S1 eS1 H locs hR hS => ?_)
  have h := h S1 eS1
  refine lv_aload_n hx hb dX12_why_5 rfl (lv_at hl 0 rfl) ?_
  refine gM_0_1 C0 hR Nat.zero_lt_one tbs_wsX120 mM1_7_78 dX12_why_6 ?_
  exact rtM_i C0 hr hlk hR hS h dX12_why_9

def rm_X12_uses : Room := { frames := 0, cells := 0, slots := 0, locals := 0 }
def F_X12_uses (S : sSt) (k : sSt → Prop) : Prop := ∀ S1, S1 = uI S 0 0 0 0 → ∀ S2, S2 = uI S1 0 0 11 (S1.1 0 0 9) → ∀ S3, S3 = uI S2 0 0 9 0 → ∀ S4, S4 = uI S3 0 0 10 0 → k S4
set_option maxHeartbeats 4000000 in
set_option maxRecDepth 100000 in
theorem c_X12_uses (l : Launch) {D : va_G} {cy : Nat → ClassId} {b z : Nat} {tx : TX} {S : sSt} {k : sSt → Prop} (h : F_X12_uses S k) : Met l yX12_uses (Cond.code yX12_uses cX12_uses 1 none :: TB) rm_X12_uses (va_Pc [.ref (b + adM 0 0)] (fun U => RelM D cy b z tx S U U.heap ∧ TxR tx U)) (PvM D cy b z tx k) 0 0 (gA b 12 z) := by
  refine Met.ofW (cc := cX12_uses) (maxL := 1) (ret := none) (by decide) rfl ?_
  intro p e s m args below meth c s₁ B hml hv
  obtain ⟨rfl, hR, hT⟩ := hv
  have C0 : CallFix p m c cX12_uses 1 s _ TB RX12 := ⟨B.exec, B.bytes, hml, findClass_of_methodNamed B.named, fun w hw => atoms_spec B.pre w (List.mem_cons_of_mem _ hw)⟩
  have hr := B.returns
  have hlk := B.notSynchronized
  have hx := C0.1
  have hb := C0.2.1
  have hS : va_S (gA b 12 z) s.heap s.heap [] := va_S.rf
  have hl := lv_entry ([.ref (b + adM 0 0)]) (n := 1) (Nat.le_of_ble_eq_true rfl)
  rw [lg_entry_eq]
  generalize (lg_sl ([.ref (b + adM 0 0)]) ++ List.replicate (1 - (lg_sl ([.ref (b + adM 0 0)])).length) Slot.unset).toArray = ls at hl ⊢
  have hl : lv_has ls 1 [(0, .ref (b + adM 0 0))] := hl
  show W p l e rm_X12_uses s m _ below meth c s.heap [] 0 0 (MQ below (PvM D cy b z tx k) _ s 0 0 (gA b 12 z)) _
  unfold F_X12_uses at h
  refine lv_aload_n hx hb dX12_uses_0 rfl (lv_at hl 0 rfl) ?_
  refine lv_iconst (v := 0) hx hb dX12_uses_1 (by decide) ?_
  refine pM_0_0 C0 hR hS Nat.zero_lt_one tbs_wsX120 mM1_7_77 dX12_uses_2 (fun S1 eS1 H locs hR hS => ?_)
  have h := h S1 eS1
  refine lv_aload_n hx hb dX12_uses_5 rfl (lv_at hl 0 rfl) ?_
  refine lv_aload_n hx hb dX12_uses_6 rfl (lv_at hl 0 rfl) ?_
  refine gM_0_9 C0 hR Nat.zero_lt_one tbs_wsX120 mM1_7_86 dX12_uses_7 ?_
  refine pM_0_11 C0 hR hS Nat.zero_lt_one tbs_wsX120 mM1_7_88 dX12_uses_10 (fun S2 eS2 H locs hR hS => ?_)
  have h := h S2 eS2
  refine lv_aload_n hx hb dX12_uses_13 rfl (lv_at hl 0 rfl) ?_
  refine lv_iconst (v := 0) hx hb dX12_uses_14 (by decide) ?_
  refine pM_0_9 C0 hR hS Nat.zero_lt_one tbs_wsX120 mM1_7_86 dX12_uses_15 (fun S3 eS3 H locs hR hS => ?_)
  have h := h S3 eS3
  refine lv_aload_n hx hb dX12_uses_18 rfl (lv_at hl 0 rfl) ?_
  refine lv_iconst (v := 0) hx hb dX12_uses_19 (by decide) ?_
  refine pM_0_10 C0 hR hS Nat.zero_lt_one tbs_wsX120 mM1_7_87 dX12_uses_20 (fun S4 eS4 H locs hR hS => ?_)
  have h := h S4 eS4
  exact rtM_v C0 hr hlk hR hS h dX12_uses_23

def rm_X12_readNumber : Room := { frames := 3, cells := 0, slots := 0, locals := 65 }
def B_X12_readNumber_29 (a4 : Int32) (t1 : Int32) (t2 : Int32) (S : sSt) (k : Int32 → sSt → Prop) : Prop := ix t1 10421 (fun j4 => ∀ S5, S5 = uI S 1 0 j4 t2 → ((a4 < 0 → k 0 S5) ∧ (¬ a4 < 0 → k 1 S5)))
set_option maxHeartbeats 4000000 in
set_option maxRecDepth 100000 in
theorem Bw_X12_readNumber_29 {p : Program} {l : Launch} {e : Env} {s : State} {m : MethodId} {args : Array Value} {below : List Frame} {meth : Method} {c : Code} {D : va_G} {cy : Nat → ClassId} {b z : Nat} {tx : TX} (C0 : CallFix p m c cX12_readNumber 5 s args TB RX12) (hr : meth.sig.returnType = (some .boolean)) (hlk : meth.locks = false) (hT : TxR tx s) {k : Int32 → sSt → Prop} : ∀ (a4 : Int32) (t1 : Int32) (t2 : Int32) (S : sSt) (H : Heap) (locs : List Loc) (ls : Array Slot) , B_X12_readNumber_29 a4 t1 t2 S k → RelM D cy b z tx S s H → va_S (gA b 12 z) s.heap H locs → lv_has ls 5 [(4, .int a4)] → W p l e rm_X12_readNumber s m args below meth c H locs 0 0 (MQ below (PiM D cy b z tx k) args s 0 0 (gA b 12 z)) (F0 m 29 ls [.int t2, .int t1, .ref (b + adM 1 0)]) := by
  intro a4 t1 t2 S H locs ls h hR hS hl
  have hx := C0.1
  have hb := C0.2.1
  unfold B_X12_readNumber_29 at h
  obtain ⟨j4, hj4, ej4, h⟩ := h
  refine sM_1 C0 hR hS Nat.zero_lt_one hj4 ej4 dX12_readNumber_29 (fun S5 eS5 H locs hR hS => ?_)
  have h := h S5 eS5
  refine lv_iload hx hb dX12_readNumber_30 (lv_at hl 0 rfl) ?_
  refine lv_if_lt (tgt := 39) hx hb dX12_readNumber_32 (by decide) (fun c6 => ?_) (fun c6 => ?_)
  · have h := h.1 c6
    refine lv_iconst (v := 0) hx hb dX12_readNumber_39 (by decide) ?_
    exact rtM_z C0 hr hlk hR hS (by decide) h dX12_readNumber_40
  · have h := h.2 c6
    refine lv_iconst (v := 1) hx hb dX12_readNumber_35 (by decide) ?_
    refine lv_goto (tgt := 40) hx hb dX12_readNumber_36 (by decide) ?_
    exact rtM_z C0 hr hlk hR hS (by decide) h dX12_readNumber_40
def F_X12_readNumber (a1 : Int32) (a2 : Int32) (a3 : Int32) (S : sSt) (k : Int32 → sSt → Prop) : Prop := F_X12_number a2 a3 S (fun r1 S2 => ((0 ≤ r1 → B_X12_readNumber_29 r1 a1 r1 S2 k) ∧ (¬ 0 ≤ r1 → ix a1 10421 (fun j7 => B_X12_readNumber_29 r1 a1 (S2.1 1 0 j7) S2 k))))
set_option maxHeartbeats 4000000 in
set_option maxRecDepth 100000 in
theorem c_X12_readNumber (l : Launch) {D : va_G} {cy : Nat → ClassId} {b z : Nat} {tx : TX} {a1 : Int32} {a2 : Int32} {a3 : Int32} {S : sSt} {k : Int32 → sSt → Prop} (h : F_X12_readNumber a1 a2 a3 S k) : Met l yX12_readNumber (Cond.code yX12_readNumber cX12_readNumber 5 (some .boolean) :: TB) rm_X12_readNumber (va_Pc [.ref (b + adM 0 0), .int a1, .int a2, .int a3] (fun U => RelM D cy b z tx S U U.heap ∧ TxR tx U)) (PiM D cy b z tx k) 0 0 (gA b 12 z) := by
  refine Met.ofW (cc := cX12_readNumber) (maxL := 5) (ret := (some .boolean)) (by decide) rfl ?_
  intro p e s m args below meth c s₁ B hml hv
  obtain ⟨rfl, hR, hT⟩ := hv
  have C0 : CallFix p m c cX12_readNumber 5 s _ TB RX12 := ⟨B.exec, B.bytes, hml, findClass_of_methodNamed B.named, fun w hw => atoms_spec B.pre w (List.mem_cons_of_mem _ hw)⟩
  have hr := B.returns
  have hlk := B.notSynchronized
  have hx := C0.1
  have hb := C0.2.1
  have hS : va_S (gA b 12 z) s.heap s.heap [] := va_S.rf
  have hl := lv_entry ([.ref (b + adM 0 0), .int a1, .int a2, .int a3]) (n := 5) (Nat.le_of_ble_eq_true rfl)
  rw [lg_entry_eq]
  generalize (lg_sl ([.ref (b + adM 0 0), .int a1, .int a2, .int a3]) ++ List.replicate (5 - (lg_sl ([.ref (b + adM 0 0), .int a1, .int a2, .int a3])).length) Slot.unset).toArray = ls at hl ⊢
  have hl : lv_has ls 5 [(0, .ref (b + adM 0 0)), (1, .int a1), (2, .int a2), (3, .int a3)] := hl
  show W p l e rm_X12_readNumber s m _ below meth c s.heap [] 0 0 (MQ below (PiM D cy b z tx k) _ s 0 0 (gA b 12 z)) _
  unfold F_X12_readNumber at h
  refine lv_aload_n hx hb dX12_readNumber_0 rfl (lv_at hl 0 rfl) ?_
  refine lv_iload_n hx hb dX12_readNumber_1 rfl (lv_at hl 2 rfl) ?_
  refine lv_iload_n hx hb dX12_readNumber_2 rfl (lv_at hl 3 rfl) ?_
  refine qM_Vi (As := [.int a2, .int a3]) (rest := []) C0 (c_X12_number l h) (cwV 2 C0.2.2.2.2 (tbV mM1_7_211 ⟨mM1_7_213, mpM1_3_5, mM1_1_11, mM1_7_214⟩) rfl rfl rfl (by decide +kernel) ⟨Nat.le_of_ble_eq_true rfl, Nat.le_of_ble_eq_true rfl⟩) (rcM_0 hR Nat.zero_lt_one) hR hT hS rfl hl.1 rfl (Nat.le_of_ble_eq_true rfl) dX12_readNumber_3 ⟨Nat.zero_le _, Nat.zero_le _⟩ (fun r1 S2 H locs h hR hS => ?_)
  refine lv_istore (lv' := [(4, .int r1), (0, .ref (b + adM 0 0)), (1, .int a1), (2, .int a2), (3, .int a3)]) hx hb dX12_readNumber_6 hl (by decide) rfl (fun ls hl => ?_)
  refine lv_aload_n hx hb dX12_readNumber_8 rfl (lv_at hl 1 rfl) ?_
  refine gM_0_2 C0 hR Nat.zero_lt_one tbs_wsX120 mM1_7_79 dX12_readNumber_9 ?_
  refine lv_iload_n hx hb dX12_readNumber_12 rfl (lv_at hl 2 rfl) ?_
  refine lv_iload hx hb dX12_readNumber_13 (lv_at hl 0 rfl) ?_
  refine lv_if_ge (tgt := 27) hx hb dX12_readNumber_15 (by decide) (fun c3 => ?_) (fun c3 => ?_)
  · have h := h.1 c3
    refine lv_iload hx hb dX12_readNumber_27 (lv_at hl 0 rfl) ?_
    exact Bw_X12_readNumber_29 C0 hr hlk hT r1 a1 r1 S2 _ _ _ h hR hS (lv_sub hl [0] rfl)
  · have h := h.2 c3
    refine lv_aload_n hx hb dX12_readNumber_18 rfl (lv_at hl 1 rfl) ?_
    refine gM_0_2 C0 hR Nat.zero_lt_one tbs_wsX120 mM1_7_79 dX12_readNumber_19 ?_
    refine lv_iload_n hx hb dX12_readNumber_22 rfl (lv_at hl 2 rfl) ?_
    obtain ⟨j7, hj7, ej7, h⟩ := h
    refine lM_1 C0 hR Nat.zero_lt_one hj7 ej7 dX12_readNumber_23 ?_
    refine lv_goto (tgt := 29) hx hb dX12_readNumber_24 (by decide) ?_
    exact Bw_X12_readNumber_29 C0 hr hlk hT r1 a1 (S2.1 1 0 j7) S2 _ _ _ h hR hS (lv_sub hl [0] rfl)

def rm_X12_readJob : Room := { frames := 6, cells := 0, slots := 0, locals := 131 }
def B_X12_readJob_82 (a1 : Int32) (a2 : Int32) (a3 : Int32) (t0 : Int32) (S : sSt) (k : Int32 → sSt → Prop) : Prop := ((0 ≤ t0 → F_X12_comes 3 1 a1 a2 a3 ((S.1 1 0 3) + t0) S (fun r17 S18 => k 1 S18)) ∧ (¬ 0 ≤ t0 → k 0 S))
set_option maxHeartbeats 4000000 in
set_option maxRecDepth 100000 in
theorem Bw_X12_readJob_82 {p : Program} {l : Launch} {e : Env} {s : State} {m : MethodId} {args : Array Value} {below : List Frame} {meth : Method} {c : Code} {D : va_G} {cy : Nat → ClassId} {b z : Nat} {tx : TX} (C0 : CallFix p m c cX12_readJob 5 s args TB RX12) (hr : meth.sig.returnType = (some .boolean)) (hlk : meth.locks = false) (hT : TxR tx s) {k : Int32 → sSt → Prop} : ∀ (a1 : Int32) (a2 : Int32) (a3 : Int32) (t0 : Int32) (S : sSt) (H : Heap) (locs : List Loc) (ls : Array Slot) , B_X12_readJob_82 a1 a2 a3 t0 S k → RelM D cy b z tx S s H → va_S (gA b 12 z) s.heap H locs → lv_has ls 5 [(0, .ref (b + adM 0 0)), (1, .int a1), (2, .int a2), (3, .int a3)] → W p l e rm_X12_readJob s m args below meth c H locs 0 0 (MQ below (PiM D cy b z tx k) args s 0 0 (gA b 12 z)) (F0 m 82 ls [.int t0]) := by
  intro a1 a2 a3 t0 S H locs ls h hR hS hl
  have hx := C0.1
  have hb := C0.2.1
  unfold B_X12_readJob_82 at h
  refine lv_istore (lv' := [(4, .int t0), (0, .ref (b + adM 0 0)), (1, .int a1), (2, .int a2), (3, .int a3)]) hx hb dX12_readJob_82 hl (by decide) rfl (fun ls hl => ?_)
  refine lv_iload hx hb dX12_readJob_84 (lv_at hl 0 rfl) ?_
  refine lv_if_ge (tgt := 91) hx hb dX12_readJob_86 (by decide) (fun c16 => ?_) (fun c16 => ?_)
  · have h := h.1 c16
    refine lv_aload_n hx hb dX12_readJob_91 rfl (lv_at hl 1 rfl) ?_
    refine lv_iconst (v := 3) hx hb dX12_readJob_92 (by decide) ?_
    refine lv_iconst (v := 1) hx hb dX12_readJob_93 (by decide) ?_
    refine lv_iload_n hx hb dX12_readJob_94 rfl (lv_at hl 2 rfl) ?_
    refine lv_iload_n hx hb dX12_readJob_95 rfl (lv_at hl 3 rfl) ?_
    refine lv_iload_n hx hb dX12_readJob_96 rfl (lv_at hl 4 rfl) ?_
    refine lv_aload_n hx hb dX12_readJob_97 rfl (lv_at hl 1 rfl) ?_
    refine gM_0_2 C0 hR Nat.zero_lt_one tbs_wsX120 mM1_7_79 dX12_readJob_98 ?_
    refine lv_iconst (v := 3) hx hb dX12_readJob_101 (by decide) ?_
    refine lM_1 C0 hR Nat.zero_lt_one (by decide) rfl dX12_readJob_102 ?_
    refine lv_iload hx hb dX12_readJob_103 (lv_at hl 0 rfl) ?_
    refine lv_iadd hx hb dX12_readJob_105 ?_
    refine qM_Vi (As := [.int 3, .int 1, .int a1, .int a2, .int a3, .int ((S.1 1 0 3) + t0)]) (rest := []) C0 (c_X12_comes l h) (cwV 6 C0.2.2.2.2 (tbV mM1_7_222 ⟨mM1_7_224, mpM1_3_7, mM1_1_11, mM1_7_225⟩) rfl rfl rfl (by decide +kernel) ⟨Nat.le_of_ble_eq_true rfl, Nat.le_of_ble_eq_true rfl⟩) (rcM_0 hR Nat.zero_lt_one) hR hT hS rfl hl.1 rfl (Nat.le_of_ble_eq_true rfl) dX12_readJob_106 ⟨Nat.zero_le _, Nat.zero_le _⟩ (fun r17 S18 H locs h hR hS => ?_)
    refine lv_pop hx hb dX12_readJob_109 rfl ?_
    refine lv_iconst (v := 1) hx hb dX12_readJob_110 (by decide) ?_
    exact rtM_z C0 hr hlk hR hS (by decide) h dX12_readJob_111
  · have h := h.2 c16
    refine lv_iconst (v := 0) hx hb dX12_readJob_89 (by decide) ?_
    exact rtM_z C0 hr hlk hR hS (by decide) h dX12_readJob_90
def B_X12_readJob_55 (a1 : Int32) (a2 : Int32) (t0 : Int32) (S : sSt) (k : Int32 → sSt → Prop) : Prop := ((0 ≤ t0 → F_X12_passes 4 S (fun r13 S14 => ((r13 = 0 → B_X12_readJob_82 a1 a2 t0 0 S14 k) ∧ (¬ r13 = 0 → F_X12_number 0 99 S14 (fun r19 S20 => B_X12_readJob_82 a1 a2 t0 r19 S20 k))))) ∧ (¬ 0 ≤ t0 → k 0 S))
set_option maxHeartbeats 4000000 in
set_option maxRecDepth 100000 in
theorem Bw_X12_readJob_55 {p : Program} {l : Launch} {e : Env} {s : State} {m : MethodId} {args : Array Value} {below : List Frame} {meth : Method} {c : Code} {D : va_G} {cy : Nat → ClassId} {b z : Nat} {tx : TX} (C0 : CallFix p m c cX12_readJob 5 s args TB RX12) (hr : meth.sig.returnType = (some .boolean)) (hlk : meth.locks = false) (hT : TxR tx s) {k : Int32 → sSt → Prop} : ∀ (a1 : Int32) (a2 : Int32) (t0 : Int32) (S : sSt) (H : Heap) (locs : List Loc) (ls : Array Slot) , B_X12_readJob_55 a1 a2 t0 S k → RelM D cy b z tx S s H → va_S (gA b 12 z) s.heap H locs → lv_has ls 5 [(0, .ref (b + adM 0 0)), (1, .int a1), (2, .int a2)] → W p l e rm_X12_readJob s m args below meth c H locs 0 0 (MQ below (PiM D cy b z tx k) args s 0 0 (gA b 12 z)) (F0 m 55 ls [.int t0]) := by
  intro a1 a2 t0 S H locs ls h hR hS hl
  have hx := C0.1
  have hb := C0.2.1
  unfold B_X12_readJob_55 at h
  refine lv_istore_n (lv' := [(3, .int t0), (0, .ref (b + adM 0 0)), (1, .int a1), (2, .int a2)]) hx hb dX12_readJob_55 rfl hl (by decide) rfl (fun ls hl => ?_)
  refine lv_iload_n hx hb dX12_readJob_56 rfl (lv_at hl 0 rfl) ?_
  refine lv_if_ge (tgt := 62) hx hb dX12_readJob_57 (by decide) (fun c12 => ?_) (fun c12 => ?_)
  · have h := h.1 c12
    refine lv_aload_n hx hb dX12_readJob_62 rfl (lv_at hl 1 rfl) ?_
    refine va_ldcS hx hb C0.2.2.2.1 (tr_36 hT) dX12_readJob_63 ?_
    refine qM_Vi (As := [.ref (tx.2.1 4)]) (rest := []) C0 (c_X12_passes l (by decide) h) (cwV 1 C0.2.2.2.2 (tbV mM1_7_218 ⟨mM1_7_220, mpM1_3_6, mM1_1_11, mM1_7_221⟩) rfl rfl rfl (by decide +kernel) ⟨Nat.le_of_ble_eq_true rfl, Nat.le_of_ble_eq_true rfl⟩) (rcM_0 hR Nat.zero_lt_one) hR hT hS rfl hl.1 rfl (Nat.le_of_ble_eq_true rfl) dX12_readJob_65 ⟨Nat.zero_le _, Nat.zero_le _⟩ (fun r13 S14 H locs h hR hS => ?_)
    refine lv_if_eq (tgt := 81) hx hb dX12_readJob_68 (by decide) (fun c15 => ?_) (fun c15 => ?_)
    · have h := h.1 c15
      refine lv_iconst (v := 0) hx hb dX12_readJob_81 (by decide) ?_
      exact Bw_X12_readJob_82 C0 hr hlk hT a1 a2 t0 0 S14 _ _ _ h hR hS (lv_sub hl [1, 2, 3, 0] rfl)
    · have h := h.2 c15
      refine lv_aload_n hx hb dX12_readJob_71 rfl (lv_at hl 1 rfl) ?_
      refine lv_iconst (v := 0) hx hb dX12_readJob_72 (by decide) ?_
      refine lv_bipush (v := 99) hx hb dX12_readJob_73 (by decide) ?_
      refine qM_Vi (As := [.int 0, .int 99]) (rest := []) C0 (c_X12_number l h) (cwV 2 C0.2.2.2.2 (tbV mM1_7_211 ⟨mM1_7_213, mpM1_3_5, mM1_1_11, mM1_7_214⟩) rfl rfl rfl (by decide +kernel) ⟨Nat.le_of_ble_eq_true rfl, Nat.le_of_ble_eq_true rfl⟩) (rcM_0 hR Nat.zero_lt_one) hR hT hS rfl hl.1 rfl (Nat.le_of_ble_eq_true rfl) dX12_readJob_75 ⟨Nat.zero_le _, Nat.zero_le _⟩ (fun r19 S20 H locs h hR hS => ?_)
      refine lv_goto (tgt := 82) hx hb dX12_readJob_78 (by decide) ?_
      exact Bw_X12_readJob_82 C0 hr hlk hT a1 a2 t0 r19 S20 _ _ _ h hR hS (lv_sub hl [1, 2, 3, 0] rfl)
  · have h := h.2 c12
    refine lv_iconst (v := 0) hx hb dX12_readJob_60 (by decide) ?_
    exact rtM_z C0 hr hlk hR hS (by decide) h dX12_readJob_61
def B_X12_readJob_37 (a1 : Int32) (t0 : Int32) (S : sSt) (k : Int32 → sSt → Prop) : Prop := ((0 ≤ t0 → F_X12_behind 3 1 9 S (fun r10 S11 => B_X12_readJob_55 a1 t0 r10 S11 k)) ∧ (¬ 0 ≤ t0 → B_X12_readJob_55 a1 t0 (-1) S k))
set_option maxHeartbeats 4000000 in
set_option maxRecDepth 100000 in
theorem Bw_X12_readJob_37 {p : Program} {l : Launch} {e : Env} {s : State} {m : MethodId} {args : Array Value} {below : List Frame} {meth : Method} {c : Code} {D : va_G} {cy : Nat → ClassId} {b z : Nat} {tx : TX} (C0 : CallFix p m c cX12_readJob 5 s args TB RX12) (hr : meth.sig.returnType = (some .boolean)) (hlk : meth.locks = false) (hT : TxR tx s) {k : Int32 → sSt → Prop} : ∀ (a1 : Int32) (t0 : Int32) (S : sSt) (H : Heap) (locs : List Loc) (ls : Array Slot) , B_X12_readJob_37 a1 t0 S k → RelM D cy b z tx S s H → va_S (gA b 12 z) s.heap H locs → lv_has ls 5 [(0, .ref (b + adM 0 0)), (1, .int a1)] → W p l e rm_X12_readJob s m args below meth c H locs 0 0 (MQ below (PiM D cy b z tx k) args s 0 0 (gA b 12 z)) (F0 m 37 ls [.int t0]) := by
  intro a1 t0 S H locs ls h hR hS hl
  have hx := C0.1
  have hb := C0.2.1
  unfold B_X12_readJob_37 at h
  refine lv_istore_n (lv' := [(2, .int t0), (0, .ref (b + adM 0 0)), (1, .int a1)]) hx hb dX12_readJob_37 rfl hl (by decide) rfl (fun ls hl => ?_)
  refine lv_iload_n hx hb dX12_readJob_38 rfl (lv_at hl 0 rfl) ?_
  refine lv_if_ge (tgt := 46) hx hb dX12_readJob_39 (by decide) (fun c9 => ?_) (fun c9 => ?_)
  · have h := h.1 c9
    refine lv_aload_n hx hb dX12_readJob_46 rfl (lv_at hl 1 rfl) ?_
    refine va_ldcS hx hb C0.2.2.2.1 (tr_35 hT) dX12_readJob_47 ?_
    refine lv_iconst (v := 1) hx hb dX12_readJob_49 (by decide) ?_
    refine lv_bipush (v := 9) hx hb dX12_readJob_50 (by decide) ?_
    refine qM_Vi (As := [.ref (tx.2.1 3), .int 1, .int 9]) (rest := []) C0 (c_X12_behind l (by decide) h) (cwV 3 C0.2.2.2.2 (tbV mM1_7_207 ⟨mM1_7_209, mpM1_3_4, mM1_1_11, mM1_7_210⟩) rfl rfl rfl (by decide +kernel) ⟨Nat.le_of_ble_eq_true rfl, Nat.le_of_ble_eq_true rfl⟩) (rcM_0 hR Nat.zero_lt_one) hR hT hS rfl hl.1 rfl (Nat.le_of_ble_eq_true rfl) dX12_readJob_52 ⟨Nat.zero_le _, Nat.zero_le _⟩ (fun r10 S11 H locs h hR hS => ?_)
    exact Bw_X12_readJob_55 C0 hr hlk hT a1 t0 r10 S11 _ _ _ h hR hS (lv_sub hl [1, 2, 0] rfl)
  · have h := h.2 c9
    refine lv_iconst (v := (-1)) hx hb dX12_readJob_42 (by decide) ?_
    refine lv_goto (tgt := 55) hx hb dX12_readJob_43 (by decide) ?_
    exact Bw_X12_readJob_55 C0 hr hlk hT a1 t0 (-1) S _ _ _ h hR hS (lv_sub hl [1, 2, 0] rfl)
def F_X12_readJob (S : sSt) (k : Int32 → sSt → Prop) : Prop := F_X12_jobsLying S (fun r1 S2 => ((¬ r1 = 24 → F_X12_behind 1 0 5 S2 (fun r4 S5 => ((0 ≤ r4 → F_X12_behind 2 0 9 S5 (fun r7 S8 => B_X12_readJob_37 r4 r7 S8 k)) ∧ (¬ 0 ≤ r4 → B_X12_readJob_37 r4 (-1) S5 k)))) ∧ (r1 = 24 → k 0 S2)))
set_option maxHeartbeats 4000000 in
set_option maxRecDepth 100000 in
theorem c_X12_readJob (l : Launch) {D : va_G} {cy : Nat → ClassId} {b z : Nat} {tx : TX} {S : sSt} {k : Int32 → sSt → Prop} (h : F_X12_readJob S k) : Met l yX12_readJob (Cond.code yX12_readJob cX12_readJob 5 (some .boolean) :: TB) rm_X12_readJob (va_Pc [.ref (b + adM 0 0)] (fun U => RelM D cy b z tx S U U.heap ∧ TxR tx U)) (PiM D cy b z tx k) 0 0 (gA b 12 z) := by
  refine Met.ofW (cc := cX12_readJob) (maxL := 5) (ret := (some .boolean)) (by decide) rfl ?_
  intro p e s m args below meth c s₁ B hml hv
  obtain ⟨rfl, hR, hT⟩ := hv
  have C0 : CallFix p m c cX12_readJob 5 s _ TB RX12 := ⟨B.exec, B.bytes, hml, findClass_of_methodNamed B.named, fun w hw => atoms_spec B.pre w (List.mem_cons_of_mem _ hw)⟩
  have hr := B.returns
  have hlk := B.notSynchronized
  have hx := C0.1
  have hb := C0.2.1
  have hS : va_S (gA b 12 z) s.heap s.heap [] := va_S.rf
  have hl := lv_entry ([.ref (b + adM 0 0)]) (n := 5) (Nat.le_of_ble_eq_true rfl)
  rw [lg_entry_eq]
  generalize (lg_sl ([.ref (b + adM 0 0)]) ++ List.replicate (5 - (lg_sl ([.ref (b + adM 0 0)])).length) Slot.unset).toArray = ls at hl ⊢
  have hl : lv_has ls 5 [(0, .ref (b + adM 0 0))] := hl
  show W p l e rm_X12_readJob s m _ below meth c s.heap [] 0 0 (MQ below (PiM D cy b z tx k) _ s 0 0 (gA b 12 z)) _
  unfold F_X12_readJob at h
  refine lv_aload_n hx hb dX12_readJob_0 rfl (lv_at hl 0 rfl) ?_
  refine qM_Vi (As := []) (rest := []) C0 (c_X12_jobsLying l h) (cwV 0 C0.2.2.2.2 (tbV mM1_7_198 ⟨mM1_7_200, mpM1_3_2, mM1_1_11, mM1_7_201⟩) rfl rfl rfl (by decide +kernel) ⟨Nat.le_of_ble_eq_true rfl, Nat.le_of_ble_eq_true rfl⟩) (rcM_0 hR Nat.zero_lt_one) hR hT hS rfl hl.1 rfl (Nat.le_of_ble_eq_true rfl) dX12_readJob_1 ⟨Nat.zero_le _, Nat.zero_le _⟩ (fun r1 S2 H locs h hR hS => ?_)
  refine lv_bipush (v := 24) hx hb dX12_readJob_4 (by decide) ?_
  refine lv_icmp_ne (tgt := 11) hx hb dX12_readJob_6 (by decide) (fun c3 => ?_) (fun c3 => ?_)
  · have h := h.1 c3
    refine lv_aload_n hx hb dX12_readJob_11 rfl (lv_at hl 0 rfl) ?_
    refine va_ldcS hx hb C0.2.2.2.1 (tr_33 hT) dX12_readJob_12 ?_
    refine lv_iconst (v := 0) hx hb dX12_readJob_14 (by decide) ?_
    refine lv_iconst (v := 5) hx hb dX12_readJob_15 (by decide) ?_
    refine qM_Vi (As := [.ref (tx.2.1 1), .int 0, .int 5]) (rest := []) C0 (c_X12_behind l (by decide) h) (cwV 3 C0.2.2.2.2 (tbV mM1_7_207 ⟨mM1_7_209, mpM1_3_4, mM1_1_11, mM1_7_210⟩) rfl rfl rfl (by decide +kernel) ⟨Nat.le_of_ble_eq_true rfl, Nat.le_of_ble_eq_true rfl⟩) (rcM_0 hR Nat.zero_lt_one) hR hT hS rfl hl.1 rfl (Nat.le_of_ble_eq_true rfl) dX12_readJob_16 ⟨Nat.zero_le _, Nat.zero_le _⟩ (fun r4 S5 H locs h hR hS => ?_)
    refine lv_istore_n (lv' := [(1, .int r4), (0, .ref (b + adM 0 0))]) hx hb dX12_readJob_19 rfl hl (by decide) rfl (fun ls hl => ?_)
    refine lv_iload_n hx hb dX12_readJob_20 rfl (lv_at hl 0 rfl) ?_
    refine lv_if_ge (tgt := 28) hx hb dX12_readJob_21 (by decide) (fun c6 => ?_) (fun c6 => ?_)
    · have h := h.1 c6
      refine lv_aload_n hx hb dX12_readJob_28 rfl (lv_at hl 1 rfl) ?_
      refine va_ldcS hx hb C0.2.2.2.1 (tr_34 hT) dX12_readJob_29 ?_
      refine lv_iconst (v := 0) hx hb dX12_readJob_31 (by decide) ?_
      refine lv_bipush (v := 9) hx hb dX12_readJob_32 (by decide) ?_
      refine qM_Vi (As := [.ref (tx.2.1 2), .int 0, .int 9]) (rest := []) C0 (c_X12_behind l (by decide) h) (cwV 3 C0.2.2.2.2 (tbV mM1_7_207 ⟨mM1_7_209, mpM1_3_4, mM1_1_11, mM1_7_210⟩) rfl rfl rfl (by decide +kernel) ⟨Nat.le_of_ble_eq_true rfl, Nat.le_of_ble_eq_true rfl⟩) (rcM_0 hR Nat.zero_lt_one) hR hT hS rfl hl.1 rfl (Nat.le_of_ble_eq_true rfl) dX12_readJob_34 ⟨Nat.zero_le _, Nat.zero_le _⟩ (fun r7 S8 H locs h hR hS => ?_)
      exact Bw_X12_readJob_37 C0 hr hlk hT r4 r7 S8 _ _ _ h hR hS (lv_sub hl [1, 0] rfl)
    · have h := h.2 c6
      refine lv_iconst (v := (-1)) hx hb dX12_readJob_24 (by decide) ?_
      refine lv_goto (tgt := 37) hx hb dX12_readJob_25 (by decide) ?_
      exact Bw_X12_readJob_37 C0 hr hlk hT r4 (-1) S5 _ _ _ h hR hS (lv_sub hl [1, 0] rfl)
  · have h := h.2 c3
    refine lv_iconst (v := 0) hx hb dX12_readJob_9 (by decide) ?_
    exact rtM_z C0 hr hlk hR hS (by decide) h dX12_readJob_10

def rm_X12_readSession : Room := { frames := 6, cells := 0, slots := 0, locals := 129 }
def B_X12_readSession_117 (a1 : Int32) (t1 : Int32) (t2 : Int32) (S : sSt) (k : Int32 → sSt → Prop) : Prop := ix t1 10421 (fun j14 => ∀ S15, S15 = uI S 1 0 j14 t2 → F_X12_sessionAt a1 1 S15 (fun r16 S17 => ix r16 10421 (fun j18 => ∀ S19, S19 = uI S17 1 0 j18 5 → F_X12_sessionAt a1 4 S19 (fun r20 S21 => ix r20 10421 (fun j22 => ∀ S23, S23 = uI S21 1 0 j22 1 → ∀ S24, S24 = uI S23 1 0 0 ((S23.1 1 0 0) + 1) → k 1 S24)))))
set_option maxHeartbeats 4000000 in
set_option maxRecDepth 100000 in
theorem Bw_X12_readSession_117 {p : Program} {l : Launch} {e : Env} {s : State} {m : MethodId} {args : Array Value} {below : List Frame} {meth : Method} {c : Code} {D : va_G} {cy : Nat → ClassId} {b z : Nat} {tx : TX} (C0 : CallFix p m c cX12_readSession 6 s args TB RX12) (hr : meth.sig.returnType = (some .boolean)) (hlk : meth.locks = false) (hT : TxR tx s) {k : Int32 → sSt → Prop} : ∀ (a1 : Int32) (t1 : Int32) (t2 : Int32) (S : sSt) (H : Heap) (locs : List Loc) (ls : Array Slot) , B_X12_readSession_117 a1 t1 t2 S k → RelM D cy b z tx S s H → va_S (gA b 12 z) s.heap H locs → lv_has ls 6 [(0, .ref (b + adM 0 0)), (1, .int a1)] → W p l e rm_X12_readSession s m args below meth c H locs 0 0 (MQ below (PiM D cy b z tx k) args s 0 0 (gA b 12 z)) (F0 m 117 ls [.int t2, .int t1, .ref (b + adM 1 0)]) := by
  intro a1 t1 t2 S H locs ls h hR hS hl
  have hx := C0.1
  have hb := C0.2.1
  unfold B_X12_readSession_117 at h
  obtain ⟨j14, hj14, ej14, h⟩ := h
  refine sM_1 C0 hR hS Nat.zero_lt_one hj14 ej14 dX12_readSession_117 (fun S15 eS15 H locs hR hS => ?_)
  have h := h S15 eS15
  refine lv_aload_n hx hb dX12_readSession_118 rfl (lv_at hl 0 rfl) ?_
  refine gM_0_2 C0 hR Nat.zero_lt_one tbs_wsX120 mM1_7_79 dX12_readSession_119 ?_
  refine lv_iload_n hx hb dX12_readSession_122 rfl (lv_at hl 1 rfl) ?_
  refine lv_iconst (v := 1) hx hb dX12_readSession_123 (by decide) ?_
  refine qM_Si (As := [.int a1, .int 1]) (rest := [.ref (b + adM 1 0)]) C0 (c_X12_sessionAt l h) (va_cwS 2 C0.2.2.2.2 (tbS mM1_7_233 ⟨mM1_7_234, mM1_1_11, mM1_7_235⟩) rfl rfl rfl (by decide +kernel) ⟨Nat.le_of_ble_eq_true rfl, Nat.le_of_ble_eq_true rfl⟩) hR hT hS rfl hl.1 rfl (Nat.le_of_ble_eq_true rfl) dX12_readSession_124 ⟨Nat.zero_le _, Nat.zero_le _⟩ (fun r16 S17 H locs h hR hS => ?_)
  refine lv_iconst (v := 5) hx hb dX12_readSession_127 (by decide) ?_
  obtain ⟨j18, hj18, ej18, h⟩ := h
  refine sM_1 C0 hR hS Nat.zero_lt_one hj18 ej18 dX12_readSession_128 (fun S19 eS19 H locs hR hS => ?_)
  have h := h S19 eS19
  refine lv_aload_n hx hb dX12_readSession_129 rfl (lv_at hl 0 rfl) ?_
  refine gM_0_2 C0 hR Nat.zero_lt_one tbs_wsX120 mM1_7_79 dX12_readSession_130 ?_
  refine lv_iload_n hx hb dX12_readSession_133 rfl (lv_at hl 1 rfl) ?_
  refine lv_iconst (v := 4) hx hb dX12_readSession_134 (by decide) ?_
  refine qM_Si (As := [.int a1, .int 4]) (rest := [.ref (b + adM 1 0)]) C0 (c_X12_sessionAt l h) (va_cwS 2 C0.2.2.2.2 (tbS mM1_7_233 ⟨mM1_7_234, mM1_1_11, mM1_7_235⟩) rfl rfl rfl (by decide +kernel) ⟨Nat.le_of_ble_eq_true rfl, Nat.le_of_ble_eq_true rfl⟩) hR hT hS rfl hl.1 rfl (Nat.le_of_ble_eq_true rfl) dX12_readSession_135 ⟨Nat.zero_le _, Nat.zero_le _⟩ (fun r20 S21 H locs h hR hS => ?_)
  refine lv_iconst (v := 1) hx hb dX12_readSession_138 (by decide) ?_
  obtain ⟨j22, hj22, ej22, h⟩ := h
  refine sM_1 C0 hR hS Nat.zero_lt_one hj22 ej22 dX12_readSession_139 (fun S23 eS23 H locs hR hS => ?_)
  have h := h S23 eS23
  refine lv_aload_n hx hb dX12_readSession_140 rfl (lv_at hl 0 rfl) ?_
  refine gM_0_2 C0 hR Nat.zero_lt_one tbs_wsX120 mM1_7_79 dX12_readSession_141 ?_
  refine lv_iconst (v := 0) hx hb dX12_readSession_144 (by decide) ?_
  refine lv_dup2_11 hx hb dX12_readSession_145 rfl rfl ?_
  refine lM_1 C0 hR Nat.zero_lt_one (by decide) rfl dX12_readSession_146 ?_
  refine lv_iconst (v := 1) hx hb dX12_readSession_147 (by decide) ?_
  refine lv_iadd hx hb dX12_readSession_148 ?_
  refine sM_1 C0 hR hS Nat.zero_lt_one (by decide) rfl dX12_readSession_149 (fun S24 eS24 H locs hR hS => ?_)
  have h := h S24 eS24
  refine lv_iconst (v := 1) hx hb dX12_readSession_150 (by decide) ?_
  exact rtM_z C0 hr hlk hR hS (by decide) h dX12_readSession_151
def Bb_X12_readSession_71 (kk71 : Int32 → Int32 → Int32 → Int32 → sSt → Prop) (a1 : Int32) (a3 : Int32) (a4 : Int32) (a5 : Int32) (S : sSt) (k : Int32 → sSt → Prop) : Prop := ((27 ≤ a5 → F_X12_sessionAt a1 0 S (fun r11 S12 => ((a3 = 0 → B_X12_readSession_117 a1 r11 a4 S12 k) ∧ (¬ a3 = 0 → B_X12_readSession_117 a1 r11 (-a4) S12 k)))) ∧ (¬ 27 ≤ a5 → F_X12_sessionAt a1 a5 S (fun r25 S26 => ix r25 10421 (fun j27 => ∀ S28, S28 = uI S26 1 0 j27 0 → ∀ x29 : Int32, x29 = a5 + 1 → kk71 a1 a3 a4 x29 S28))))
set_option maxHeartbeats 4000000 in
set_option maxRecDepth 100000 in
theorem Bbw_X12_readSession_71 {p : Program} {l : Launch} {e : Env} {s : State} {m : MethodId} {args : Array Value} {below : List Frame} {meth : Method} {c : Code} {D : va_G} {cy : Nat → ClassId} {b z : Nat} {tx : TX} (C0 : CallFix p m c cX12_readSession 6 s args TB RX12) (hr : meth.sig.returnType = (some .boolean)) (hlk : meth.locks = false) (hT : TxR tx s) {k : Int32 → sSt → Prop} {kk71 : Int32 → Int32 → Int32 → Int32 → sSt → Prop} (ih71 : ∀ (a1 : Int32) (a3 : Int32) (a4 : Int32) (a5 : Int32) (S : sSt) (H : Heap) (locs : List Loc) (ls : Array Slot) , kk71 a1 a3 a4 a5 S → RelM D cy b z tx S s H → va_S (gA b 12 z) s.heap H locs → lv_has ls 6 [(0, .ref (b + adM 0 0)), (1, .int a1), (3, .int a3), (4, .int a4), (5, .int a5)] → W p l e rm_X12_readSession s m args below meth c H locs 0 0 (MQ below (PiM D cy b z tx k) args s 0 0 (gA b 12 z)) (F0 m 71 ls [])) : ∀ (a1 : Int32) (a3 : Int32) (a4 : Int32) (a5 : Int32) (S : sSt) (H : Heap) (locs : List Loc) (ls : Array Slot) , Bb_X12_readSession_71 kk71 a1 a3 a4 a5 S k → RelM D cy b z tx S s H → va_S (gA b 12 z) s.heap H locs → lv_has ls 6 [(0, .ref (b + adM 0 0)), (1, .int a1), (3, .int a3), (4, .int a4), (5, .int a5)] → W p l e rm_X12_readSession s m args below meth c H locs 0 0 (MQ below (PiM D cy b z tx k) args s 0 0 (gA b 12 z)) (F0 m 71 ls []) := by
  intro a1 a3 a4 a5 S H locs ls h hR hS hl
  have hx := C0.1
  have hb := C0.2.1
  unfold Bb_X12_readSession_71 at h
  refine lv_iload hx hb dX12_readSession_71 (lv_at hl 4 rfl) ?_
  refine lv_bipush (v := 27) hx hb dX12_readSession_73 (by decide) ?_
  refine lv_icmp_ge (tgt := 96) hx hb dX12_readSession_75 (by decide) (fun c10 => ?_) (fun c10 => ?_)
  · have h := h.1 c10
    refine lv_aload_n hx hb dX12_readSession_96 rfl (lv_at hl 0 rfl) ?_
    refine gM_0_2 C0 hR Nat.zero_lt_one tbs_wsX120 mM1_7_79 dX12_readSession_97 ?_
    refine lv_iload_n hx hb dX12_readSession_100 rfl (lv_at hl 1 rfl) ?_
    refine lv_iconst (v := 0) hx hb dX12_readSession_101 (by decide) ?_
    refine qM_Si (As := [.int a1, .int 0]) (rest := [.ref (b + adM 1 0)]) C0 (c_X12_sessionAt l h) (va_cwS 2 C0.2.2.2.2 (tbS mM1_7_233 ⟨mM1_7_234, mM1_1_11, mM1_7_235⟩) rfl rfl rfl (by decide +kernel) ⟨Nat.le_of_ble_eq_true rfl, Nat.le_of_ble_eq_true rfl⟩) hR hT hS rfl hl.1 rfl (Nat.le_of_ble_eq_true rfl) dX12_readSession_102 ⟨Nat.zero_le _, Nat.zero_le _⟩ (fun r11 S12 H locs h hR hS => ?_)
    refine lv_iload_n hx hb dX12_readSession_105 rfl (lv_at hl 2 rfl) ?_
    refine lv_if_eq (tgt := 115) hx hb dX12_readSession_106 (by decide) (fun c13 => ?_) (fun c13 => ?_)
    · have h := h.1 c13
      refine lv_iload hx hb dX12_readSession_115 (lv_at hl 3 rfl) ?_
      exact Bw_X12_readSession_117 C0 hr hlk hT a1 r11 a4 S12 _ _ _ h hR hS (lv_sub hl [0, 1] rfl)
    · have h := h.2 c13
      refine lv_iload hx hb dX12_readSession_109 (lv_at hl 3 rfl) ?_
      refine lv_ineg hx hb dX12_readSession_111 ?_
      refine lv_goto (tgt := 117) hx hb dX12_readSession_112 (by decide) ?_
      exact Bw_X12_readSession_117 C0 hr hlk hT a1 r11 (-a4) S12 _ _ _ h hR hS (lv_sub hl [0, 1] rfl)
  · have h := h.2 c10
    refine lv_aload_n hx hb dX12_readSession_78 rfl (lv_at hl 0 rfl) ?_
    refine gM_0_2 C0 hR Nat.zero_lt_one tbs_wsX120 mM1_7_79 dX12_readSession_79 ?_
    refine lv_iload_n hx hb dX12_readSession_82 rfl (lv_at hl 1 rfl) ?_
    refine lv_iload hx hb dX12_readSession_83 (lv_at hl 4 rfl) ?_
    refine qM_Si (As := [.int a1, .int a5]) (rest := [.ref (b + adM 1 0)]) C0 (c_X12_sessionAt l h) (va_cwS 2 C0.2.2.2.2 (tbS mM1_7_233 ⟨mM1_7_234, mM1_1_11, mM1_7_235⟩) rfl rfl rfl (by decide +kernel) ⟨Nat.le_of_ble_eq_true rfl, Nat.le_of_ble_eq_true rfl⟩) hR hT hS rfl hl.1 rfl (Nat.le_of_ble_eq_true rfl) dX12_readSession_85 ⟨Nat.zero_le _, Nat.zero_le _⟩ (fun r25 S26 H locs h hR hS => ?_)
    refine lv_iconst (v := 0) hx hb dX12_readSession_88 (by decide) ?_
    obtain ⟨j27, hj27, ej27, h⟩ := h
    refine sM_1 C0 hR hS Nat.zero_lt_one hj27 ej27 dX12_readSession_89 (fun S28 eS28 H locs hR hS => ?_)
    have h := h S28 eS28
    obtain ⟨x29, ex29⟩ : ∃ x29 : Int32, x29 = a5 + 1 := ⟨_, rfl⟩
    have h := h x29 ex29
    refine w_iinc (v0 := 1) (lv' := [(5, .int x29), (0, .ref (b + adM 0 0)), (1, .int a1), (3, .int a3), (4, .int a4)]) C0 dX12_readSession_90 hl (k := 4) rfl (by decide) (by decide) x29 ex29 rfl (fun ls hl => ?_)
    refine lv_goto (tgt := 71) hx hb dX12_readSession_93 (by decide) ?_
    exact ih71 a1 a3 a4 x29 S28 _ _ _  h hR hS (lv_sub hl [1, 2, 3, 4, 0] rfl)
def B_X12_readSession_71 (n9 : Nat) (a1 : Int32) (a3 : Int32) (a4 : Int32) (a5 : Int32) (S : sSt) (k : Int32 → sSt → Prop) : Prop := (Nat.rec (motive := fun _ => Int32 → Int32 → Int32 → Int32 → sSt → Prop) (fun _ _ _ _ _ => False) (fun _ r9 => fun a1 a3 a4 a5 S => Bb_X12_readSession_71 r9 a1 a3 a4 a5 S k) n9 : Int32 → Int32 → Int32 → Int32 → sSt → Prop) a1 a3 a4 a5 S
theorem B_X12_readSession_71_s (n9 : Nat) (a1 : Int32) (a3 : Int32) (a4 : Int32) (a5 : Int32) (S : sSt) (k : Int32 → sSt → Prop) : B_X12_readSession_71 (n9 + 1) a1 a3 a4 a5 S k = Bb_X12_readSession_71 (fun a1 a3 a4 a5 S => B_X12_readSession_71 n9 a1 a3 a4 a5 S k) a1 a3 a4 a5 S k := rfl
set_option maxHeartbeats 4000000 in
set_option maxRecDepth 100000 in
theorem Bw_X12_readSession_71 {p : Program} {l : Launch} {e : Env} {s : State} {m : MethodId} {args : Array Value} {below : List Frame} {meth : Method} {c : Code} {D : va_G} {cy : Nat → ClassId} {b z : Nat} {tx : TX} (C0 : CallFix p m c cX12_readSession 6 s args TB RX12) (hr : meth.sig.returnType = (some .boolean)) (hlk : meth.locks = false) (hT : TxR tx s) {k : Int32 → sSt → Prop} : ∀ (n9 : Nat), ∀ (a1 : Int32) (a3 : Int32) (a4 : Int32) (a5 : Int32) (S : sSt) (H : Heap) (locs : List Loc) (ls : Array Slot) , B_X12_readSession_71 n9 a1 a3 a4 a5 S k → RelM D cy b z tx S s H → va_S (gA b 12 z) s.heap H locs → lv_has ls 6 [(0, .ref (b + adM 0 0)), (1, .int a1), (3, .int a3), (4, .int a4), (5, .int a5)] → W p l e rm_X12_readSession s m args below meth c H locs 0 0 (MQ below (PiM D cy b z tx k) args s 0 0 (gA b 12 z)) (F0 m 71 ls []) := by
  intro n9
  induction n9 with
  | zero => intro a1 a3 a4 a5 S H locs ls h; exact h.elim
  | succ n9 ih =>
    intro a1 a3 a4 a5 S H locs ls h hR hS hl
    exact Bbw_X12_readSession_71 C0 hr hlk hT ih a1 a3 a4 a5 S H locs ls h hR hS hl
def B_X12_readSession_59 (a1 : Int32) (a3 : Int32) (t0 : Int32) (S : sSt) (k : Int32 → sSt → Prop) : Prop := ((0 ≤ t0 → B_X12_readSession_71 fuel a1 a3 t0 0 S k) ∧ (¬ 0 ≤ t0 → k 0 S))
set_option maxHeartbeats 4000000 in
set_option maxRecDepth 100000 in
theorem Bw_X12_readSession_59 {p : Program} {l : Launch} {e : Env} {s : State} {m : MethodId} {args : Array Value} {below : List Frame} {meth : Method} {c : Code} {D : va_G} {cy : Nat → ClassId} {b z : Nat} {tx : TX} (C0 : CallFix p m c cX12_readSession 6 s args TB RX12) (hr : meth.sig.returnType = (some .boolean)) (hlk : meth.locks = false) (hT : TxR tx s) {k : Int32 → sSt → Prop} : ∀ (a1 : Int32) (a3 : Int32) (t0 : Int32) (S : sSt) (H : Heap) (locs : List Loc) (ls : Array Slot) , B_X12_readSession_59 a1 a3 t0 S k → RelM D cy b z tx S s H → va_S (gA b 12 z) s.heap H locs → lv_has ls 6 [(0, .ref (b + adM 0 0)), (1, .int a1), (3, .int a3)] → W p l e rm_X12_readSession s m args below meth c H locs 0 0 (MQ below (PiM D cy b z tx k) args s 0 0 (gA b 12 z)) (F0 m 59 ls [.int t0]) := by
  intro a1 a3 t0 S H locs ls h hR hS hl
  have hx := C0.1
  have hb := C0.2.1
  unfold B_X12_readSession_59 at h
  refine lv_istore (lv' := [(4, .int t0), (0, .ref (b + adM 0 0)), (1, .int a1), (3, .int a3)]) hx hb dX12_readSession_59 hl (by decide) rfl (fun ls hl => ?_)
  refine lv_iload hx hb dX12_readSession_61 (lv_at hl 0 rfl) ?_
  refine lv_if_ge (tgt := 68) hx hb dX12_readSession_63 (by decide) (fun c9 => ?_) (fun c9 => ?_)
  · have h := h.1 c9
    refine lv_iconst (v := 0) hx hb dX12_readSession_68 (by decide) ?_
    refine lv_istore (lv' := [(5, .int 0), (4, .int t0), (0, .ref (b + adM 0 0)), (1, .int a1), (3, .int a3)]) hx hb dX12_readSession_69 hl (by decide) rfl (fun ls hl => ?_)
    exact Bw_X12_readSession_71 C0 hr hlk hT fuel a1 a3 t0 0 S _ _ _ h hR hS (lv_sub hl [2, 3, 4, 1, 0] rfl)
  · have h := h.2 c9
    refine lv_iconst (v := 0) hx hb dX12_readSession_66 (by decide) ?_
    exact rtM_z C0 hr hlk hR hS (by decide) h dX12_readSession_67
def B_X12_readSession_48 (a1 : Int32) (a3 : Int32) (S : sSt) (k : Int32 → sSt → Prop) : Prop := F_X12_number 0 9 S (fun r7 S8 => B_X12_readSession_59 a1 a3 r7 S8 k)
set_option maxHeartbeats 4000000 in
set_option maxRecDepth 100000 in
theorem Bw_X12_readSession_48 {p : Program} {l : Launch} {e : Env} {s : State} {m : MethodId} {args : Array Value} {below : List Frame} {meth : Method} {c : Code} {D : va_G} {cy : Nat → ClassId} {b z : Nat} {tx : TX} (C0 : CallFix p m c cX12_readSession 6 s args TB RX12) (hr : meth.sig.returnType = (some .boolean)) (hlk : meth.locks = false) (hT : TxR tx s) {k : Int32 → sSt → Prop} : ∀ (a1 : Int32) (a3 : Int32) (S : sSt) (H : Heap) (locs : List Loc) (ls : Array Slot) , B_X12_readSession_48 a1 a3 S k → RelM D cy b z tx S s H → va_S (gA b 12 z) s.heap H locs → lv_has ls 6 [(0, .ref (b + adM 0 0)), (1, .int a1), (3, .int a3)] → W p l e rm_X12_readSession s m args below meth c H locs 0 0 (MQ below (PiM D cy b z tx k) args s 0 0 (gA b 12 z)) (F0 m 48 ls []) := by
  intro a1 a3 S H locs ls h hR hS hl
  have hx := C0.1
  have hb := C0.2.1
  unfold B_X12_readSession_48 at h
  refine lv_aload_n hx hb dX12_readSession_48 rfl (lv_at hl 0 rfl) ?_
  refine lv_iconst (v := 0) hx hb dX12_readSession_49 (by decide) ?_
  refine lv_bipush (v := 9) hx hb dX12_readSession_50 (by decide) ?_
  refine qM_Vi (As := [.int 0, .int 9]) (rest := []) C0 (c_X12_number l h) (cwV 2 C0.2.2.2.2 (tbV mM1_7_211 ⟨mM1_7_213, mpM1_3_5, mM1_1_11, mM1_7_214⟩) rfl rfl rfl (by decide +kernel) ⟨Nat.le_of_ble_eq_true rfl, Nat.le_of_ble_eq_true rfl⟩) (rcM_0 hR Nat.zero_lt_one) hR hT hS rfl hl.1 rfl (Nat.le_of_ble_eq_true rfl) dX12_readSession_52 ⟨Nat.zero_le _, Nat.zero_le _⟩ (fun r7 S8 H locs h hR hS => ?_)
  refine lv_goto (tgt := 59) hx hb dX12_readSession_55 (by decide) ?_
  exact Bw_X12_readSession_59 C0 hr hlk hT a1 a3 r7 S8 _ _ _ h hR hS (lv_sub hl [0, 1, 2] rfl)
def B_X12_readSession_39 (a1 : Int32) (a2 : Int32) (t0 : Int32) (S : sSt) (k : Int32 → sSt → Prop) : Prop := ((¬ a2 = 0 → B_X12_readSession_48 a1 t0 S k) ∧ (a2 = 0 → ((t0 = 0 → B_X12_readSession_59 a1 t0 0 S k) ∧ (¬ t0 = 0 → B_X12_readSession_48 a1 t0 S k))))
set_option maxHeartbeats 4000000 in
set_option maxRecDepth 100000 in
theorem Bw_X12_readSession_39 {p : Program} {l : Launch} {e : Env} {s : State} {m : MethodId} {args : Array Value} {below : List Frame} {meth : Method} {c : Code} {D : va_G} {cy : Nat → ClassId} {b z : Nat} {tx : TX} (C0 : CallFix p m c cX12_readSession 6 s args TB RX12) (hr : meth.sig.returnType = (some .boolean)) (hlk : meth.locks = false) (hT : TxR tx s) {k : Int32 → sSt → Prop} : ∀ (a1 : Int32) (a2 : Int32) (t0 : Int32) (S : sSt) (H : Heap) (locs : List Loc) (ls : Array Slot) , B_X12_readSession_39 a1 a2 t0 S k → RelM D cy b z tx S s H → va_S (gA b 12 z) s.heap H locs → lv_has ls 6 [(0, .ref (b + adM 0 0)), (1, .int a1), (2, .int a2)] → W p l e rm_X12_readSession s m args below meth c H locs 0 0 (MQ below (PiM D cy b z tx k) args s 0 0 (gA b 12 z)) (F0 m 39 ls [.int t0]) := by
  intro a1 a2 t0 S H locs ls h hR hS hl
  have hx := C0.1
  have hb := C0.2.1
  unfold B_X12_readSession_39 at h
  refine lv_istore_n (lv' := [(3, .int t0), (0, .ref (b + adM 0 0)), (1, .int a1), (2, .int a2)]) hx hb dX12_readSession_39 rfl hl (by decide) rfl (fun ls hl => ?_)
  refine lv_iload_n hx hb dX12_readSession_40 rfl (lv_at hl 3 rfl) ?_
  refine lv_if_ne (tgt := 48) hx hb dX12_readSession_41 (by decide) (fun c6 => ?_) (fun c6 => ?_)
  · have h := h.1 c6
    exact Bw_X12_readSession_48 C0 hr hlk hT a1 t0 S _ _ _ h hR hS (lv_sub hl [1, 2, 0] rfl)
  · have h := h.2 c6
    refine lv_iload_n hx hb dX12_readSession_44 rfl (lv_at hl 0 rfl) ?_
    refine lv_if_eq (tgt := 58) hx hb dX12_readSession_45 (by decide) (fun c30 => ?_) (fun c30 => ?_)
    · have h := h.1 c30
      refine lv_iconst (v := 0) hx hb dX12_readSession_58 (by decide) ?_
      exact Bw_X12_readSession_59 C0 hr hlk hT a1 t0 0 S _ _ _ h hR hS (lv_sub hl [1, 2, 0] rfl)
    · have h := h.2 c30
      exact Bw_X12_readSession_48 C0 hr hlk hT a1 t0 S _ _ _ h hR hS (lv_sub hl [1, 2, 0] rfl)
def B_X12_readSession_38 (a1 : Int32) (a2 : Int32) (S : sSt) (k : Int32 → sSt → Prop) : Prop := B_X12_readSession_39 a1 a2 0 S k
set_option maxHeartbeats 4000000 in
set_option maxRecDepth 100000 in
theorem Bw_X12_readSession_38 {p : Program} {l : Launch} {e : Env} {s : State} {m : MethodId} {args : Array Value} {below : List Frame} {meth : Method} {c : Code} {D : va_G} {cy : Nat → ClassId} {b z : Nat} {tx : TX} (C0 : CallFix p m c cX12_readSession 6 s args TB RX12) (hr : meth.sig.returnType = (some .boolean)) (hlk : meth.locks = false) (hT : TxR tx s) {k : Int32 → sSt → Prop} : ∀ (a1 : Int32) (a2 : Int32) (S : sSt) (H : Heap) (locs : List Loc) (ls : Array Slot) , B_X12_readSession_38 a1 a2 S k → RelM D cy b z tx S s H → va_S (gA b 12 z) s.heap H locs → lv_has ls 6 [(0, .ref (b + adM 0 0)), (1, .int a1), (2, .int a2)] → W p l e rm_X12_readSession s m args below meth c H locs 0 0 (MQ below (PiM D cy b z tx k) args s 0 0 (gA b 12 z)) (F0 m 38 ls []) := by
  intro a1 a2 S H locs ls h hR hS hl
  have hx := C0.1
  have hb := C0.2.1
  unfold B_X12_readSession_38 at h
  refine lv_iconst (v := 0) hx hb dX12_readSession_38 (by decide) ?_
  exact Bw_X12_readSession_39 C0 hr hlk hT a1 a2 0 S _ _ _ h hR hS (lv_sub hl [0, 1, 2] rfl)
def F_X12_readSession (S : sSt) (k : Int32 → sSt → Prop) : Prop := ∀ x1 : Int32, x1 = (S.1 1 0 0) → ((¬ x1 = 4 → F_X12_passes 6 S (fun r3 S4 => ((¬ r3 = 0 → B_X12_readSession_38 x1 r3 S4 k) ∧ (r3 = 0 → F_X12_passes 7 S4 (fun r31 S32 => ((r31 = 0 → B_X12_readSession_38 x1 r3 S32 k) ∧ (¬ r31 = 0 → B_X12_readSession_39 x1 r3 1 S32 k))))))) ∧ (x1 = 4 → k 0 S))
set_option maxHeartbeats 4000000 in
set_option maxRecDepth 100000 in
theorem c_X12_readSession (l : Launch) {D : va_G} {cy : Nat → ClassId} {b z : Nat} {tx : TX} {S : sSt} {k : Int32 → sSt → Prop} (h : F_X12_readSession S k) : Met l yX12_readSession (Cond.code yX12_readSession cX12_readSession 6 (some .boolean) :: TB) rm_X12_readSession (va_Pc [.ref (b + adM 0 0)] (fun U => RelM D cy b z tx S U U.heap ∧ TxR tx U)) (PiM D cy b z tx k) 0 0 (gA b 12 z) := by
  refine Met.ofW (cc := cX12_readSession) (maxL := 6) (ret := (some .boolean)) (by decide) rfl ?_
  intro p e s m args below meth c s₁ B hml hv
  obtain ⟨rfl, hR, hT⟩ := hv
  have C0 : CallFix p m c cX12_readSession 6 s _ TB RX12 := ⟨B.exec, B.bytes, hml, findClass_of_methodNamed B.named, fun w hw => atoms_spec B.pre w (List.mem_cons_of_mem _ hw)⟩
  have hr := B.returns
  have hlk := B.notSynchronized
  have hx := C0.1
  have hb := C0.2.1
  have hS : va_S (gA b 12 z) s.heap s.heap [] := va_S.rf
  have hl := lv_entry ([.ref (b + adM 0 0)]) (n := 6) (Nat.le_of_ble_eq_true rfl)
  rw [lg_entry_eq]
  generalize (lg_sl ([.ref (b + adM 0 0)]) ++ List.replicate (6 - (lg_sl ([.ref (b + adM 0 0)])).length) Slot.unset).toArray = ls at hl ⊢
  have hl : lv_has ls 6 [(0, .ref (b + adM 0 0))] := hl
  show W p l e rm_X12_readSession s m _ below meth c s.heap [] 0 0 (MQ below (PiM D cy b z tx k) _ s 0 0 (gA b 12 z)) _
  unfold F_X12_readSession at h
  refine lv_aload_n hx hb dX12_readSession_0 rfl (lv_at hl 0 rfl) ?_
  refine gM_0_2 C0 hR Nat.zero_lt_one tbs_wsX120 mM1_7_79 dX12_readSession_1 ?_
  refine lv_iconst (v := 0) hx hb dX12_readSession_4 (by decide) ?_
  refine lM_1 C0 hR Nat.zero_lt_one (by decide) rfl dX12_readSession_5 ?_
  refine lv_topi (fun x1 ex1 => ?_)
  have h := h x1 ex1
  refine lv_istore_n (lv' := [(1, .int x1), (0, .ref (b + adM 0 0))]) hx hb dX12_readSession_6 rfl hl (by decide) rfl (fun ls hl => ?_)
  refine lv_iload_n hx hb dX12_readSession_7 rfl (lv_at hl 0 rfl) ?_
  refine lv_iconst (v := 4) hx hb dX12_readSession_8 (by decide) ?_
  refine lv_icmp_ne (tgt := 14) hx hb dX12_readSession_9 (by decide) (fun c2 => ?_) (fun c2 => ?_)
  · have h := h.1 c2
    refine lv_aload_n hx hb dX12_readSession_14 rfl (lv_at hl 1 rfl) ?_
    refine va_ldcS hx hb C0.2.2.2.1 (tr_38 hT) dX12_readSession_15 ?_
    refine qM_Vi (As := [.ref (tx.2.1 6)]) (rest := []) C0 (c_X12_passes l (by decide) h) (cwV 1 C0.2.2.2.2 (tbV mM1_7_218 ⟨mM1_7_220, mpM1_3_6, mM1_1_11, mM1_7_221⟩) rfl rfl rfl (by decide +kernel) ⟨Nat.le_of_ble_eq_true rfl, Nat.le_of_ble_eq_true rfl⟩) (rcM_0 hR Nat.zero_lt_one) hR hT hS rfl hl.1 rfl (Nat.le_of_ble_eq_true rfl) dX12_readSession_17 ⟨Nat.zero_le _, Nat.zero_le _⟩ (fun r3 S4 H locs h hR hS => ?_)
    refine lv_istore_n (lv' := [(2, .int r3), (1, .int x1), (0, .ref (b + adM 0 0))]) hx hb dX12_readSession_20 rfl hl (by decide) rfl (fun ls hl => ?_)
    refine lv_iload_n hx hb dX12_readSession_21 rfl (lv_at hl 0 rfl) ?_
    refine lv_if_ne (tgt := 38) hx hb dX12_readSession_22 (by decide) (fun c5 => ?_) (fun c5 => ?_)
    · have h := h.1 c5
      exact Bw_X12_readSession_38 C0 hr hlk hT x1 r3 S4 _ _ _ h hR hS (lv_sub hl [2, 1, 0] rfl)
    · have h := h.2 c5
      refine lv_aload_n hx hb dX12_readSession_25 rfl (lv_at hl 2 rfl) ?_
      refine va_ldcS hx hb C0.2.2.2.1 (tr_39 hT) dX12_readSession_26 ?_
      refine qM_Vi (As := [.ref (tx.2.1 7)]) (rest := []) C0 (c_X12_passes l (by decide) h) (cwV 1 C0.2.2.2.2 (tbV mM1_7_218 ⟨mM1_7_220, mpM1_3_6, mM1_1_11, mM1_7_221⟩) rfl rfl rfl (by decide +kernel) ⟨Nat.le_of_ble_eq_true rfl, Nat.le_of_ble_eq_true rfl⟩) (rcM_0 hR Nat.zero_lt_one) hR hT hS rfl hl.1 rfl (Nat.le_of_ble_eq_true rfl) dX12_readSession_28 ⟨Nat.zero_le _, Nat.zero_le _⟩ (fun r31 S32 H locs h hR hS => ?_)
      refine lv_if_eq (tgt := 38) hx hb dX12_readSession_31 (by decide) (fun c33 => ?_) (fun c33 => ?_)
      · have h := h.1 c33
        exact Bw_X12_readSession_38 C0 hr hlk hT x1 r3 S32 _ _ _ h hR hS (lv_sub hl [2, 1, 0] rfl)
      · have h := h.2 c33
        refine lv_iconst (v := 1) hx hb dX12_readSession_34 (by decide) ?_
        refine lv_goto (tgt := 39) hx hb dX12_readSession_35 (by decide) ?_
        exact Bw_X12_readSession_39 C0 hr hlk hT x1 r3 1 S32 _ _ _ h hR hS (lv_sub hl [2, 1, 0] rfl)
  · have h := h.2 c2
    refine lv_iconst (v := 0) hx hb dX12_readSession_12 (by decide) ?_
    exact rtM_z C0 hr hlk hR hS (by decide) h dX12_readSession_13
