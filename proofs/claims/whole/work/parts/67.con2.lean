section CON
theorem mNM_7_73 : Cond.methodLink RX12 7 objectInit ∈ TB := tbT_7 _ (List.mem_of_getElem? (i := 73) rfl) rfl
theorem mNM_1_34 : Cond.instanceMethod objectInit ∈ TB := tbT_1 _ (List.mem_of_getElem? (i := 34) rfl) rfl
theorem mNM_1_35 : Cond.code objectInit ⟨#[0xb1]⟩ 1 none ∈ TB := tbT_1 _ (List.mem_of_getElem? (i := 35) rfl) rfl
theorem mNM_1_94 : Cond.arrayClass .int ∈ TB := tbT_1 _ (List.mem_of_getElem? (i := 94) rfl) rfl
theorem mNM_7_79 : Cond.fieldLink RX12 13 "ClaimTableModel" "world" "[I" ∈ TB := tbT_7 _ (List.mem_of_getElem? (i := 79) rfl) rfl
theorem mNM_7_80 : Cond.fieldLink RX12 17 "ClaimTableModel" "image" "[I" ∈ TB := tbT_7 _ (List.mem_of_getElem? (i := 80) rfl) rfl
theorem mNM_7_81 : Cond.fieldLink RX12 20 "ClaimTableModel" "earlier" "[I" ∈ TB := tbT_7 _ (List.mem_of_getElem? (i := 81) rfl) rfl
theorem mNM_7_82 : Cond.fieldLink RX12 23 "ClaimTableModel" "trial" "[I" ∈ TB := tbT_7 _ (List.mem_of_getElem? (i := 82) rfl) rfl
theorem mNM_7_83 : Cond.fieldLink RX12 26 "ClaimTableModel" "draft" "[I" ∈ TB := tbT_7 _ (List.mem_of_getElem? (i := 83) rfl) rfl
theorem mNM_1_60 : Cond.arrayClass .byte ∈ TB := tbT_1 _ (List.mem_of_getElem? (i := 60) rfl) rfl
theorem mNM_7_85 : Cond.fieldLink RX12 29 "ClaimTableModel" "tape" "[B" ∈ TB := tbT_7 _ (List.mem_of_getElem? (i := 85) rfl) rfl
theorem mNM_7_90 : Cond.fieldLink RX12 33 "ClaimTableModel" "faultAt" "I" ∈ TB := tbT_7 _ (List.mem_of_getElem? (i := 90) rfl) rfl
theorem mNM_7_91 : Cond.fieldLink RX12 36 "ClaimTableModel" "five" "[I" ∈ TB := tbT_7 _ (List.mem_of_getElem? (i := 91) rfl) rfl
theorem mNM_7_92 : Cond.fieldLink RX12 39 "ClaimTableModel" "claimed" "[I" ∈ TB := tbT_7 _ (List.mem_of_getElem? (i := 92) rfl) rfl
theorem mNM_7_93 : Cond.fieldLink RX12 42 "ClaimTableModel" "next" "[I" ∈ TB := tbT_7 _ (List.mem_of_getElem? (i := 93) rfl) rfl
theorem mNM_7_94 : Cond.fieldLink RX12 45 "ClaimTableModel" "claimers" "[I" ∈ TB := tbT_7 _ (List.mem_of_getElem? (i := 94) rfl) rfl
theorem mNM_7_95 : Cond.fieldLink RX12 48 "ClaimTableModel" "begun" "[I" ∈ TB := tbT_7 _ (List.mem_of_getElem? (i := 95) rfl) rfl
theorem mNM_7_74 : Cond.methodLink RX12 51 yX12_jobAt ∈ TB := tbT_7 _ (List.mem_of_getElem? (i := 74) rfl) rfl
theorem mNM_7_76 : Cond.code yX12_jobAt cX12_jobAt 2 (some .int) ∈ TB := tbT_7 _ (List.mem_of_getElem? (i := 76) rfl) rfl
theorem mNM_7_75 : Cond.static yX12_jobAt ∈ TB := tbT_7 _ (List.mem_of_getElem? (i := 75) rfl) rfl
theorem mNM_1_11 : Cond.initialized RX12 ∈ TB := tbT_1 _ (List.mem_of_getElem? (i := 11) rfl) rfl

def sh_X12 (D : va_G) (cy : Nat → ClassId) (b : Nat) (G : Nat → va_E) (o : Nat) : Prop := (G o = .inr (10, [.int 0, .int 0, .ref (b + (o + 1)), .ref (b + (o + 2)), .ref (b + (o + 3)), .ref (b + (o + 4)), .ref (b + (o + 5)), .int 0, .ref (b + (o + 6)), .int 0, .int 0, .int 0, .int 0, .int (-1), .ref (b + (o + 7)), .ref (b + (o + 8)), .ref (b + (o + 9)), .ref (b + (o + 10)), .ref (b + (o + 11))])) ∧ (sameE D (.inl (cy 2, 10421, .inl (fun _ => 0))) (G (o + 1))) ∧ (sameE D (.inl (cy 2, 10421, .inl (fun _ => 0))) (G (o + 2))) ∧ (sameE D (.inl (cy 2, 1589, .inl (fun _ => 0))) (G (o + 3))) ∧ (sameE D (.inl (cy 2, 1289, .inl (fun _ => 0))) (G (o + 4))) ∧ (sameE D (.inl (cy 2, 23, .inl (fun _ => 0))) (G (o + 5))) ∧ (sameE D (.inl (cy 0, 400, .inl (fun _ => 0))) (G (o + 6))) ∧ (sameE D (.inl (cy 2, 5, .inl (fun _ => 0))) (G (o + 7))) ∧ (sameE D (.inl (cy 2, 6, .inl (fun _ => 0))) (G (o + 8))) ∧ (sameE D (.inl (cy 2, 6, .inl (fun _ => 0))) (G (o + 9))) ∧ (sameE D (.inl (cy 2, 48, .inl (fun _ => 0))) (G (o + 10))) ∧ (sameE D (.inl (cy 2, 24, .inl (fun _ => 0))) (G (o + 11)))
def rm_X12_init : Room := { frames := 6, cells := 11, slots := 24232, locals := 89 }
theorem gA_eq (b n : Nat) : gA b n (b + n) = bA b := funext fun q => propext ⟨fun h => by
  show b ≤ q
  rcases h with h | h
  · exact h.1
  · exact Nat.le_trans (Nat.le_add_right _ _) h, fun h => by
  have h : b ≤ q := h
  by_cases h2 : q < b + n
  · exact Or.inl ⟨h, h2⟩
  · exact Or.inr (Nat.not_lt.mp h2)⟩
def S0m : sSt := (fun k i j => if k = 0 ∧ i = 0 ∧ j = 13 then -1 else 0, fun _ _ _ => 0)
def Bb_X12_init_139 (kk139 : Int32 → sSt → Prop) (a1 : Int32) (S : sSt) (k : sSt → Prop) : Prop := ((6 ≤ a1 → ∀ S3, S3 = uI S 1 0 9 5 → ∀ S4, S4 = uI S3 1 0 10 1 → ∀ S5, S5 = uI S4 1 0 11 30 → ∀ S6, S6 = uI S5 1 0 13 3 → k S6) ∧ (¬ 6 ≤ a1 → ix (15 + a1) 10421 (fun j7 => ∀ S8, S8 = uI S 1 0 j7 1 → ∀ x9 : Int32, x9 = a1 + 1 → kk139 x9 S8)))
set_option maxHeartbeats 4000000 in
set_option maxRecDepth 100000 in
theorem Bbw_X12_init_139 {p : Program} {l : Launch} {e : Env} {s : State} {m : MethodId} {args : Array Value} {below : List Frame} {meth : Method} {c : Code} {D : va_G} {cy : Nat → ClassId} {b z : Nat} {tx : TX} (C0 : CallFix p m c cX12_init 2 s args TB RX12) (hr : meth.sig.returnType = none) (hlk : meth.locks = false) (hT : TxR tx s) {k : sSt → Prop} {kk139 : Int32 → sSt → Prop} (ih139 : ∀ (a1 : Int32) (S : sSt) (H : Heap) (locs : List Loc) (ls : Array Slot) , kk139 a1 S → RelM D cy b z tx S s H → va_S (gA b 12 z) s.heap H locs → lv_has ls 2 [(0, .ref (b + adM 0 0)), (1, .int a1)] → W p l e rm_X12_init s m args below meth c H locs 11 24232 (MQ below (PvM D cy b z tx k) args s 11 24232 (gA b 12 z)) (F0 m 139 ls [])) : ∀ (a1 : Int32) (S : sSt) (H : Heap) (locs : List Loc) (ls : Array Slot) , Bb_X12_init_139 kk139 a1 S k → RelM D cy b z tx S s H → va_S (gA b 12 z) s.heap H locs → lv_has ls 2 [(0, .ref (b + adM 0 0)), (1, .int a1)] → W p l e rm_X12_init s m args below meth c H locs 11 24232 (MQ below (PvM D cy b z tx k) args s 11 24232 (gA b 12 z)) (F0 m 139 ls []) := by
  intro a1 S H locs ls h hR hS hl
  have hx := C0.1
  have hb := C0.2.1
  unfold Bb_X12_init_139 at h
  refine lv_iload_n hx hb dX12_init_139 rfl (lv_at hl 1 rfl) ?_
  refine lv_bipush (v := 6) hx hb dX12_init_140 (by decide) ?_
  refine lv_icmp_ge (tgt := 161) hx hb dX12_init_142 (by decide) (fun c2 => ?_) (fun c2 => ?_)
  · have h := h.1 c2
    refine lv_aload_n hx hb dX12_init_161 rfl (lv_at hl 0 rfl) ?_
    refine gM_0_2 C0 hR Nat.zero_lt_one tbs_wsX120 mNM_7_79 dX12_init_162 ?_
    refine lv_bipush (v := 9) hx hb dX12_init_165 (by decide) ?_
    refine lv_iconst (v := 5) hx hb dX12_init_167 (by decide) ?_
    refine sM_1 C0 hR hS Nat.zero_lt_one (by decide) rfl dX12_init_168 (fun S3 eS3 H locs hR hS => ?_)
    have h := h S3 eS3
    refine lv_aload_n hx hb dX12_init_169 rfl (lv_at hl 0 rfl) ?_
    refine gM_0_2 C0 hR Nat.zero_lt_one tbs_wsX120 mNM_7_79 dX12_init_170 ?_
    refine lv_bipush (v := 10) hx hb dX12_init_173 (by decide) ?_
    refine lv_iconst (v := 1) hx hb dX12_init_175 (by decide) ?_
    refine sM_1 C0 hR hS Nat.zero_lt_one (by decide) rfl dX12_init_176 (fun S4 eS4 H locs hR hS => ?_)
    have h := h S4 eS4
    refine lv_aload_n hx hb dX12_init_177 rfl (lv_at hl 0 rfl) ?_
    refine gM_0_2 C0 hR Nat.zero_lt_one tbs_wsX120 mNM_7_79 dX12_init_178 ?_
    refine lv_bipush (v := 11) hx hb dX12_init_181 (by decide) ?_
    refine lv_bipush (v := 30) hx hb dX12_init_183 (by decide) ?_
    refine sM_1 C0 hR hS Nat.zero_lt_one (by decide) rfl dX12_init_185 (fun S5 eS5 H locs hR hS => ?_)
    have h := h S5 eS5
    refine lv_aload_n hx hb dX12_init_186 rfl (lv_at hl 0 rfl) ?_
    refine gM_0_2 C0 hR Nat.zero_lt_one tbs_wsX120 mNM_7_79 dX12_init_187 ?_
    refine lv_bipush (v := 13) hx hb dX12_init_190 (by decide) ?_
    refine lv_iconst (v := 3) hx hb dX12_init_192 (by decide) ?_
    refine sM_1 C0 hR hS Nat.zero_lt_one (by decide) rfl dX12_init_193 (fun S6 eS6 H locs hR hS => ?_)
    have h := h S6 eS6
    exact rtM_v C0 hr hlk hR hS h dX12_init_194
  · have h := h.2 c2
    refine lv_aload_n hx hb dX12_init_145 rfl (lv_at hl 0 rfl) ?_
    refine gM_0_2 C0 hR Nat.zero_lt_one tbs_wsX120 mNM_7_79 dX12_init_146 ?_
    refine lv_bipush (v := 15) hx hb dX12_init_149 (by decide) ?_
    refine lv_iload_n hx hb dX12_init_151 rfl (lv_at hl 1 rfl) ?_
    refine lv_iadd hx hb dX12_init_152 ?_
    refine lv_iconst (v := 1) hx hb dX12_init_153 (by decide) ?_
    obtain ⟨j7, hj7, ej7, h⟩ := h
    refine sM_1 C0 hR hS Nat.zero_lt_one hj7 ej7 dX12_init_154 (fun S8 eS8 H locs hR hS => ?_)
    have h := h S8 eS8
    obtain ⟨x9, ex9⟩ : ∃ x9 : Int32, x9 = a1 + 1 := ⟨_, rfl⟩
    have h := h x9 ex9
    refine w_iinc (v0 := 1) (lv' := [(1, .int x9), (0, .ref (b + adM 0 0))]) C0 dX12_init_155 hl (k := 1) rfl (by decide) (by decide) x9 ex9 rfl (fun ls hl => ?_)
    refine lv_goto (tgt := 139) hx hb dX12_init_158 (by decide) ?_
    exact ih139 x9 S8 _ _ _  h hR hS (lv_sub hl [1, 0] rfl)
def B_X12_init_139 (n9 : Nat) (a1 : Int32) (S : sSt) (k : sSt → Prop) : Prop := (Nat.rec (motive := fun _ => Int32 → sSt → Prop) (fun _ _ => False) (fun _ r9 => fun a1 S => Bb_X12_init_139 r9 a1 S k) n9 : Int32 → sSt → Prop) a1 S
theorem B_X12_init_139_s (n9 : Nat) (a1 : Int32) (S : sSt) (k : sSt → Prop) : B_X12_init_139 (n9 + 1) a1 S k = Bb_X12_init_139 (fun a1 S => B_X12_init_139 n9 a1 S k) a1 S k := rfl
set_option maxHeartbeats 4000000 in
set_option maxRecDepth 100000 in
theorem Bw_X12_init_139 {p : Program} {l : Launch} {e : Env} {s : State} {m : MethodId} {args : Array Value} {below : List Frame} {meth : Method} {c : Code} {D : va_G} {cy : Nat → ClassId} {b z : Nat} {tx : TX} (C0 : CallFix p m c cX12_init 2 s args TB RX12) (hr : meth.sig.returnType = none) (hlk : meth.locks = false) (hT : TxR tx s) {k : sSt → Prop} : ∀ (n9 : Nat), ∀ (a1 : Int32) (S : sSt) (H : Heap) (locs : List Loc) (ls : Array Slot) , B_X12_init_139 n9 a1 S k → RelM D cy b z tx S s H → va_S (gA b 12 z) s.heap H locs → lv_has ls 2 [(0, .ref (b + adM 0 0)), (1, .int a1)] → W p l e rm_X12_init s m args below meth c H locs 11 24232 (MQ below (PvM D cy b z tx k) args s 11 24232 (gA b 12 z)) (F0 m 139 ls []) := by
  intro n9
  induction n9 with
  | zero => intro a1 S H locs ls h; exact h.elim
  | succ n9 ih =>
    intro a1 S H locs ls h hR hS hl
    exact Bbw_X12_init_139 C0 hr hlk hT ih a1 S H locs ls h hR hS hl
def Bb_X12_init_103 (kk103 : Int32 → sSt → Prop) (a1 : Int32) (S : sSt) (k : sSt → Prop) : Prop := ((24 ≤ a1 → B_X12_init_139 fuel 0 S k) ∧ (¬ 24 ≤ a1 → F_X12_jobAt a1 0 S (fun r10 S11 => ix r10 10421 (fun j12 => ∀ S13, S13 = uI S11 1 0 j12 (-1) → F_X12_jobAt a1 2 S13 (fun r14 S15 => ix r14 10421 (fun j16 => ∀ S17, S17 = uI S15 1 0 j16 (-1) → ∀ x18 : Int32, x18 = a1 + 1 → kk103 x18 S17))))))
set_option maxHeartbeats 4000000 in
set_option maxRecDepth 100000 in
theorem Bbw_X12_init_103 {p : Program} {l : Launch} {e : Env} {s : State} {m : MethodId} {args : Array Value} {below : List Frame} {meth : Method} {c : Code} {D : va_G} {cy : Nat → ClassId} {b z : Nat} {tx : TX} (C0 : CallFix p m c cX12_init 2 s args TB RX12) (hr : meth.sig.returnType = none) (hlk : meth.locks = false) (hT : TxR tx s) {k : sSt → Prop} {kk103 : Int32 → sSt → Prop} (ih103 : ∀ (a1 : Int32) (S : sSt) (H : Heap) (locs : List Loc) (ls : Array Slot) , kk103 a1 S → RelM D cy b z tx S s H → va_S (gA b 12 z) s.heap H locs → lv_has ls 2 [(0, .ref (b + adM 0 0)), (1, .int a1)] → W p l e rm_X12_init s m args below meth c H locs 11 24232 (MQ below (PvM D cy b z tx k) args s 11 24232 (gA b 12 z)) (F0 m 103 ls [])) : ∀ (a1 : Int32) (S : sSt) (H : Heap) (locs : List Loc) (ls : Array Slot) , Bb_X12_init_103 kk103 a1 S k → RelM D cy b z tx S s H → va_S (gA b 12 z) s.heap H locs → lv_has ls 2 [(0, .ref (b + adM 0 0)), (1, .int a1)] → W p l e rm_X12_init s m args below meth c H locs 11 24232 (MQ below (PvM D cy b z tx k) args s 11 24232 (gA b 12 z)) (F0 m 103 ls []) := by
  intro a1 S H locs ls h hR hS hl
  have hx := C0.1
  have hb := C0.2.1
  unfold Bb_X12_init_103 at h
  refine lv_iload_n hx hb dX12_init_103 rfl (lv_at hl 1 rfl) ?_
  refine lv_bipush (v := 24) hx hb dX12_init_104 (by decide) ?_
  refine lv_icmp_ge (tgt := 137) hx hb dX12_init_106 (by decide) (fun c1 => ?_) (fun c1 => ?_)
  · have h := h.1 c1
    refine lv_iconst (v := 0) hx hb dX12_init_137 (by decide) ?_
    refine lv_istore_n (lv' := [(1, .int 0), (0, .ref (b + adM 0 0))]) hx hb dX12_init_138 rfl hl (by decide) rfl (fun ls hl => ?_)
    exact Bw_X12_init_139 C0 hr hlk hT fuel 0 S _ _ _ h hR hS (lv_sub hl [1, 0] rfl)
  · have h := h.2 c1
    refine lv_aload_n hx hb dX12_init_109 rfl (lv_at hl 0 rfl) ?_
    refine gM_0_2 C0 hR Nat.zero_lt_one tbs_wsX120 mNM_7_79 dX12_init_110 ?_
    refine lv_iload_n hx hb dX12_init_113 rfl (lv_at hl 1 rfl) ?_
    refine lv_iconst (v := 0) hx hb dX12_init_114 (by decide) ?_
    refine qM_Si (As := [.int a1, .int 0]) (rest := [.ref (b + adM 1 0)]) C0 (c_X12_jobAt l h) (va_cwS 2 C0.2.2.2.2 (tbS mNM_7_74 ⟨mNM_7_75, mNM_1_11, mNM_7_76⟩) rfl rfl rfl (by decide +kernel) ⟨Nat.le_of_ble_eq_true rfl, Nat.le_of_ble_eq_true rfl⟩) hR hT hS rfl hl.1 rfl (Nat.le_of_ble_eq_true rfl) dX12_init_115 ⟨Nat.le_of_ble_eq_true rfl, Nat.le_of_ble_eq_true rfl⟩ (fun r10 S11 H locs h hR hS => ?_)
    refine lv_iconst (v := (-1)) hx hb dX12_init_118 (by decide) ?_
    obtain ⟨j12, hj12, ej12, h⟩ := h
    refine sM_1 C0 hR hS Nat.zero_lt_one hj12 ej12 dX12_init_119 (fun S13 eS13 H locs hR hS => ?_)
    have h := h S13 eS13
    refine lv_aload_n hx hb dX12_init_120 rfl (lv_at hl 0 rfl) ?_
    refine gM_0_2 C0 hR Nat.zero_lt_one tbs_wsX120 mNM_7_79 dX12_init_121 ?_
    refine lv_iload_n hx hb dX12_init_124 rfl (lv_at hl 1 rfl) ?_
    refine lv_iconst (v := 2) hx hb dX12_init_125 (by decide) ?_
    refine qM_Si (As := [.int a1, .int 2]) (rest := [.ref (b + adM 1 0)]) C0 (c_X12_jobAt l h) (va_cwS 2 C0.2.2.2.2 (tbS mNM_7_74 ⟨mNM_7_75, mNM_1_11, mNM_7_76⟩) rfl rfl rfl (by decide +kernel) ⟨Nat.le_of_ble_eq_true rfl, Nat.le_of_ble_eq_true rfl⟩) hR hT hS rfl hl.1 rfl (Nat.le_of_ble_eq_true rfl) dX12_init_126 ⟨Nat.le_of_ble_eq_true rfl, Nat.le_of_ble_eq_true rfl⟩ (fun r14 S15 H locs h hR hS => ?_)
    refine lv_iconst (v := (-1)) hx hb dX12_init_129 (by decide) ?_
    obtain ⟨j16, hj16, ej16, h⟩ := h
    refine sM_1 C0 hR hS Nat.zero_lt_one hj16 ej16 dX12_init_130 (fun S17 eS17 H locs hR hS => ?_)
    have h := h S17 eS17
    obtain ⟨x18, ex18⟩ : ∃ x18 : Int32, x18 = a1 + 1 := ⟨_, rfl⟩
    have h := h x18 ex18
    refine w_iinc (v0 := 1) (lv' := [(1, .int x18), (0, .ref (b + adM 0 0))]) C0 dX12_init_131 hl (k := 1) rfl (by decide) (by decide) x18 ex18 rfl (fun ls hl => ?_)
    refine lv_goto (tgt := 103) hx hb dX12_init_134 (by decide) ?_
    exact ih103 x18 S17 _ _ _  h hR hS (lv_sub hl [1, 0] rfl)
def B_X12_init_103 (n9 : Nat) (a1 : Int32) (S : sSt) (k : sSt → Prop) : Prop := (Nat.rec (motive := fun _ => Int32 → sSt → Prop) (fun _ _ => False) (fun _ r9 => fun a1 S => Bb_X12_init_103 r9 a1 S k) n9 : Int32 → sSt → Prop) a1 S
theorem B_X12_init_103_s (n9 : Nat) (a1 : Int32) (S : sSt) (k : sSt → Prop) : B_X12_init_103 (n9 + 1) a1 S k = Bb_X12_init_103 (fun a1 S => B_X12_init_103 n9 a1 S k) a1 S k := rfl
set_option maxHeartbeats 4000000 in
set_option maxRecDepth 100000 in
theorem Bw_X12_init_103 {p : Program} {l : Launch} {e : Env} {s : State} {m : MethodId} {args : Array Value} {below : List Frame} {meth : Method} {c : Code} {D : va_G} {cy : Nat → ClassId} {b z : Nat} {tx : TX} (C0 : CallFix p m c cX12_init 2 s args TB RX12) (hr : meth.sig.returnType = none) (hlk : meth.locks = false) (hT : TxR tx s) {k : sSt → Prop} : ∀ (n9 : Nat), ∀ (a1 : Int32) (S : sSt) (H : Heap) (locs : List Loc) (ls : Array Slot) , B_X12_init_103 n9 a1 S k → RelM D cy b z tx S s H → va_S (gA b 12 z) s.heap H locs → lv_has ls 2 [(0, .ref (b + adM 0 0)), (1, .int a1)] → W p l e rm_X12_init s m args below meth c H locs 11 24232 (MQ below (PvM D cy b z tx k) args s 11 24232 (gA b 12 z)) (F0 m 103 ls []) := by
  intro n9
  induction n9 with
  | zero => intro a1 S H locs ls h; exact h.elim
  | succ n9 ih =>
    intro a1 S H locs ls h hR hS hl
    exact Bbw_X12_init_103 C0 hr hlk hT ih a1 S H locs ls h hR hS hl
def F_X12_init2 (S : sSt) (k : sSt → Prop) : Prop := B_X12_init_103 fuel 0 S k
set_option maxHeartbeats 8000000 in
set_option maxRecDepth 100000 in
theorem c_X12_init (l : Launch) {D : va_G} {cy : Nat → ClassId} {b : Nat} {tx : TX} {F : Nat → va_E} {k : sSt → Prop} (h : F_X12_init2 S0m k) (hF : F 0 = .inr (10, [.int 0, .int 0, .null, .null, .null, .null, .null, .int 0, .null, .int 0, .int 0, .int 0, .int 0, .int 0, .null, .null, .null, .null, .null])) (hxb : tx.1 ≤ b) : Met l yX12_init (Cond.code yX12_init cX12_init 2 none :: TB) rm_X12_init (va_Pc [.ref (b + 0)] (fun U => qRel D cy b 1 F U U.heap ∧ AO U ∧ TxR tx U ∧ TxW tx U U.heap)) (PvM D cy b (b + 12) tx k) 11 24232 (gA b 12 (b + 12)) := by
  obtain ⟨o, ho⟩ : ∃ o : Nat, o = 0 := ⟨0, rfl⟩
  obtain ⟨G, hGd⟩ : ∃ G : Nat → va_E, G = fun x => cellM cy b S0m (kdM x) (ioM x) := ⟨_, rfl⟩
  have hG : sh_X12 D cy b G o := by
    subst ho hGd
    refine ⟨?_, ?_, ?_, ?_, ?_, ?_, ?_, ?_, ?_, ?_, ?_, ?_⟩
    · show cellM cy b S0m 0 0 = _
      simp [cellM, cellMK, S0m, adM]
    · exact sameE_i fun j _ => rfl
    · exact sameE_i fun j _ => rfl
    · exact sameE_i fun j _ => rfl
    · exact sameE_i fun j _ => rfl
    · exact sameE_i fun j _ => rfl
    · exact sameE_i fun j _ => rfl
    · exact sameE_i fun j _ => rfl
    · exact sameE_i fun j _ => rfl
    · exact sameE_i fun j _ => rfl
    · exact sameE_i fun j _ => rfl
    · exact sameE_i fun j _ => rfl
  unfold sh_X12 at hG
  obtain ⟨g0, g1, g2, g3, g4, g5, g6, g7, g8, g9, g10, g11⟩ := hG
  rw [show b + 0 = b + o by rw [ho]]
  have hF : F o = .inr (10, [.int 0, .int 0, .null, .null, .null, .null, .null, .int 0, .null, .int 0, .int 0, .int 0, .int 0, .int 0, .null, .null, .null, .null, .null]) := by rw [ho]; exact hF
  rw [show (fun U : State => qRel D cy b 1 F U U.heap ∧ AO U ∧ TxR tx U ∧ TxW tx U U.heap) = (fun U => qRel D cy b (o + 1) F U U.heap ∧ AO U ∧ TxR tx U ∧ TxW tx U U.heap) by rw [ho]]
  refine Met.ofW (cc := cX12_init) (maxL := 2) (ret := none) (by decide) rfl ?_
  intro p e s m args below meth c s₁ B hml hv
  obtain ⟨rfl, hR, hAO, hT, hXW⟩ := hv
  have C0 : CallFix p m c cX12_init 2 s _ TB RX12 := ⟨B.exec, B.bytes, hml, findClass_of_methodNamed B.named, fun w hw => atoms_spec B.pre w (List.mem_cons_of_mem _ hw)⟩
  have hr := B.returns
  have hlk := B.notSynchronized
  have hin2 : meth.name = "<init>" := (name_of_methodNamed B.named B.method).1
  have hx := C0.1
  have hb := C0.2.1
  have hS : va_S (bA b) s.heap s.heap [] := va_S.rf
  have hR : qRel D cy b (o + 1) (upE (cmb o F G) o (.inr (10, [.int 0, .int 0, .null, .null, .null, .null, .null, .int 0, .null, .int 0, .int 0, .int 0, .int 0, .int 0, .null, .null, .null, .null, .null]))) s s.heap := hR.ext (fun x hx => by
    unfold upE cmb
    by_cases e : x = o
    · subst e; rw [if_pos rfl, hF]
    · rw [if_neg e, if_pos (by omega)])
  have hl := lv_entry ([.ref (b + o)]) (n := 2) (Nat.le_of_ble_eq_true rfl)
  rw [lg_entry_eq]
  generalize (lg_sl ([.ref (b + o)]) ++ List.replicate (2 - (lg_sl ([.ref (b + o)])).length) Slot.unset).toArray = ls at hl ⊢
  have hl : lv_has ls 2 [(0, .ref (b + o))] := hl
  show W p l e rm_X12_init s m _ below meth c s.heap [] 0 0 (MQ below (PvM D cy b (b + 12) tx k) _ s 11 24232 (gA b 12 (b + 12))) _
  refine lv_aload_n hx hb dX12_init_0 rfl (lv_at hl 0 rfl) ?_
  refine W.objInit hx hb C0.2.2.2.1 (C0.2.2.2.2 _ mNM_7_73) (C0.2.2.2.2 _ mNM_1_34) (C0.2.2.2.2 _ mNM_1_35) rfl (by rw [hml]; exact hl.1) rfl dX12_init_1 (Nat.le_of_ble_eq_true rfl) (Nat.le_of_ble_eq_true rfl) ?_
  refine W.eq (g2 := F0 m 4 ls []) rfl ?_
  refine lv_aload_n hx hb dX12_init_4 rfl (lv_at hl 0 rfl) ?_
  refine lv_sipush (v := 10421) hx hb dX12_init_5 (by decide) ?_
  have e9 : (upE (cmb o F G) o (.inr (10, [.int 0, .int 0, .null, .null, .null, .null, .null, .int 0, .null, .int 0, .int 0, .int 0, .int 0, .int 0, .null, .null, .null, .null, .null]))) (o + 1) = G (o + 1) := (upE_ne (by omega)).trans (if_neg (by omega))
  refine q_newa (atype := .int) (ty := .int) (t0 := 2) (N' := 10421) (F' := upE (cmb o F G) o (.inr (10, [.int 0, .int 0, .null, .null, .null, .null, .null, .int 0, .null, .int 0, .int 0, .int 0, .int 0, .int 0, .null, .null, .null, .null, .null]))) C0 hR hS rfl mNM_1_94 rfl rfl (by decide) (by decide) (by decide) (by rw [e9]; exact g1) (fun x hx => rfl) (Nat.le_of_ble_eq_true rfl) (Nat.le_of_ble_eq_true rfl) dX12_init_8 (fun H hR hS => ?_)
  refine W.widen (k := 1) (n := 10421) (Nat.le_of_ble_eq_true rfl) (Nat.le_of_ble_eq_true rfl) ?_
  refine q_putF (o := o) (ci := 10) (C := RX12) (T := TX12) (N := 19) (j := 2) (v := .ref (b + (o + 1))) (ty := .array .int) (F' := upE (cmb o F G) o (.inr (10, [.int 0, .int 0, .ref (b + (o + 1)), .null, .null, .null, .null, .int 0, .null, .int 0, .int 0, .int 0, .int 0, .int 0, .null, .null, .null, .null, .null]))) C0 hR hS tyX12 tyX12_ok nmX12 (by omega) (upE_self) rfl (by decide) tbs_wsX120 mNM_7_79 rfl hin2 rfl (by decide +kernel) rfl rfl (Nat.le_of_ble_eq_true rfl) (upE_self) (fun x hx h => by simp [upE, h]) dX12_init_10 (fun H locs hR hS => ?_)
  refine lv_aload_n hx hb dX12_init_13 rfl (lv_at hl 0 rfl) ?_
  refine lv_sipush (v := 10421) hx hb dX12_init_14 (by decide) ?_
  have e9 : (upE (cmb o F G) o (.inr (10, [.int 0, .int 0, .ref (b + (o + 1)), .null, .null, .null, .null, .int 0, .null, .int 0, .int 0, .int 0, .int 0, .int 0, .null, .null, .null, .null, .null]))) (o + 2) = G (o + 2) := (upE_ne (by omega)).trans (if_neg (by omega))
  refine q_newa (atype := .int) (ty := .int) (t0 := 2) (N' := 10421) (F' := upE (cmb o F G) o (.inr (10, [.int 0, .int 0, .ref (b + (o + 1)), .null, .null, .null, .null, .int 0, .null, .int 0, .int 0, .int 0, .int 0, .int 0, .null, .null, .null, .null, .null]))) C0 hR hS rfl mNM_1_94 rfl rfl (by decide) (by decide) (by decide) (by rw [e9]; exact g2) (fun x hx => rfl) (Nat.le_of_ble_eq_true rfl) (Nat.le_of_ble_eq_true rfl) dX12_init_17 (fun H hR hS => ?_)
  refine W.widen (k := 2) (n := 20842) (Nat.le_of_ble_eq_true rfl) (Nat.le_of_ble_eq_true rfl) ?_
  refine q_putF (o := o) (ci := 10) (C := RX12) (T := TX12) (N := 19) (j := 3) (v := .ref (b + (o + 2))) (ty := .array .int) (F' := upE (cmb o F G) o (.inr (10, [.int 0, .int 0, .ref (b + (o + 1)), .ref (b + (o + 2)), .null, .null, .null, .int 0, .null, .int 0, .int 0, .int 0, .int 0, .int 0, .null, .null, .null, .null, .null]))) C0 hR hS tyX12 tyX12_ok nmX12 (by omega) (upE_self) rfl (by decide) tbs_wsX120 mNM_7_80 rfl hin2 rfl (by decide +kernel) rfl rfl (Nat.le_of_ble_eq_true rfl) (upE_self) (fun x hx h => by simp [upE, h]) dX12_init_19 (fun H locs hR hS => ?_)
  refine lv_aload_n hx hb dX12_init_22 rfl (lv_at hl 0 rfl) ?_
  refine lv_sipush (v := 1589) hx hb dX12_init_23 (by decide) ?_
  have e9 : (upE (cmb o F G) o (.inr (10, [.int 0, .int 0, .ref (b + (o + 1)), .ref (b + (o + 2)), .null, .null, .null, .int 0, .null, .int 0, .int 0, .int 0, .int 0, .int 0, .null, .null, .null, .null, .null]))) (o + 3) = G (o + 3) := (upE_ne (by omega)).trans (if_neg (by omega))
  refine q_newa (atype := .int) (ty := .int) (t0 := 2) (N' := 1589) (F' := upE (cmb o F G) o (.inr (10, [.int 0, .int 0, .ref (b + (o + 1)), .ref (b + (o + 2)), .null, .null, .null, .int 0, .null, .int 0, .int 0, .int 0, .int 0, .int 0, .null, .null, .null, .null, .null]))) C0 hR hS rfl mNM_1_94 rfl rfl (by decide) (by decide) (by decide) (by rw [e9]; exact g3) (fun x hx => rfl) (Nat.le_of_ble_eq_true rfl) (Nat.le_of_ble_eq_true rfl) dX12_init_26 (fun H hR hS => ?_)
  refine W.widen (k := 3) (n := 22431) (Nat.le_of_ble_eq_true rfl) (Nat.le_of_ble_eq_true rfl) ?_
  refine q_putF (o := o) (ci := 10) (C := RX12) (T := TX12) (N := 19) (j := 4) (v := .ref (b + (o + 3))) (ty := .array .int) (F' := upE (cmb o F G) o (.inr (10, [.int 0, .int 0, .ref (b + (o + 1)), .ref (b + (o + 2)), .ref (b + (o + 3)), .null, .null, .int 0, .null, .int 0, .int 0, .int 0, .int 0, .int 0, .null, .null, .null, .null, .null]))) C0 hR hS tyX12 tyX12_ok nmX12 (by omega) (upE_self) rfl (by decide) tbs_wsX120 mNM_7_81 rfl hin2 rfl (by decide +kernel) rfl rfl (Nat.le_of_ble_eq_true rfl) (upE_self) (fun x hx h => by simp [upE, h]) dX12_init_28 (fun H locs hR hS => ?_)
  refine lv_aload_n hx hb dX12_init_31 rfl (lv_at hl 0 rfl) ?_
  refine lv_sipush (v := 1289) hx hb dX12_init_32 (by decide) ?_
  have e9 : (upE (cmb o F G) o (.inr (10, [.int 0, .int 0, .ref (b + (o + 1)), .ref (b + (o + 2)), .ref (b + (o + 3)), .null, .null, .int 0, .null, .int 0, .int 0, .int 0, .int 0, .int 0, .null, .null, .null, .null, .null]))) (o + 4) = G (o + 4) := (upE_ne (by omega)).trans (if_neg (by omega))
  refine q_newa (atype := .int) (ty := .int) (t0 := 2) (N' := 1289) (F' := upE (cmb o F G) o (.inr (10, [.int 0, .int 0, .ref (b + (o + 1)), .ref (b + (o + 2)), .ref (b + (o + 3)), .null, .null, .int 0, .null, .int 0, .int 0, .int 0, .int 0, .int 0, .null, .null, .null, .null, .null]))) C0 hR hS rfl mNM_1_94 rfl rfl (by decide) (by decide) (by decide) (by rw [e9]; exact g4) (fun x hx => rfl) (Nat.le_of_ble_eq_true rfl) (Nat.le_of_ble_eq_true rfl) dX12_init_35 (fun H hR hS => ?_)
  refine W.widen (k := 4) (n := 23720) (Nat.le_of_ble_eq_true rfl) (Nat.le_of_ble_eq_true rfl) ?_
  refine q_putF (o := o) (ci := 10) (C := RX12) (T := TX12) (N := 19) (j := 5) (v := .ref (b + (o + 4))) (ty := .array .int) (F' := upE (cmb o F G) o (.inr (10, [.int 0, .int 0, .ref (b + (o + 1)), .ref (b + (o + 2)), .ref (b + (o + 3)), .ref (b + (o + 4)), .null, .int 0, .null, .int 0, .int 0, .int 0, .int 0, .int 0, .null, .null, .null, .null, .null]))) C0 hR hS tyX12 tyX12_ok nmX12 (by omega) (upE_self) rfl (by decide) tbs_wsX120 mNM_7_82 rfl hin2 rfl (by decide +kernel) rfl rfl (Nat.le_of_ble_eq_true rfl) (upE_self) (fun x hx h => by simp [upE, h]) dX12_init_37 (fun H locs hR hS => ?_)
  refine lv_aload_n hx hb dX12_init_40 rfl (lv_at hl 0 rfl) ?_
  refine lv_bipush (v := 23) hx hb dX12_init_41 (by decide) ?_
  have e9 : (upE (cmb o F G) o (.inr (10, [.int 0, .int 0, .ref (b + (o + 1)), .ref (b + (o + 2)), .ref (b + (o + 3)), .ref (b + (o + 4)), .null, .int 0, .null, .int 0, .int 0, .int 0, .int 0, .int 0, .null, .null, .null, .null, .null]))) (o + 5) = G (o + 5) := (upE_ne (by omega)).trans (if_neg (by omega))
  refine q_newa (atype := .int) (ty := .int) (t0 := 2) (N' := 23) (F' := upE (cmb o F G) o (.inr (10, [.int 0, .int 0, .ref (b + (o + 1)), .ref (b + (o + 2)), .ref (b + (o + 3)), .ref (b + (o + 4)), .null, .int 0, .null, .int 0, .int 0, .int 0, .int 0, .int 0, .null, .null, .null, .null, .null]))) C0 hR hS rfl mNM_1_94 rfl rfl (by decide) (by decide) (by decide) (by rw [e9]; exact g5) (fun x hx => rfl) (Nat.le_of_ble_eq_true rfl) (Nat.le_of_ble_eq_true rfl) dX12_init_43 (fun H hR hS => ?_)
  refine W.widen (k := 5) (n := 23743) (Nat.le_of_ble_eq_true rfl) (Nat.le_of_ble_eq_true rfl) ?_
  refine q_putF (o := o) (ci := 10) (C := RX12) (T := TX12) (N := 19) (j := 6) (v := .ref (b + (o + 5))) (ty := .array .int) (F' := upE (cmb o F G) o (.inr (10, [.int 0, .int 0, .ref (b + (o + 1)), .ref (b + (o + 2)), .ref (b + (o + 3)), .ref (b + (o + 4)), .ref (b + (o + 5)), .int 0, .null, .int 0, .int 0, .int 0, .int 0, .int 0, .null, .null, .null, .null, .null]))) C0 hR hS tyX12 tyX12_ok nmX12 (by omega) (upE_self) rfl (by decide) tbs_wsX120 mNM_7_83 rfl hin2 rfl (by decide +kernel) rfl rfl (Nat.le_of_ble_eq_true rfl) (upE_self) (fun x hx h => by simp [upE, h]) dX12_init_45 (fun H locs hR hS => ?_)
  refine lv_aload_n hx hb dX12_init_48 rfl (lv_at hl 0 rfl) ?_
  refine lv_sipush (v := 400) hx hb dX12_init_49 (by decide) ?_
  have e9 : (upE (cmb o F G) o (.inr (10, [.int 0, .int 0, .ref (b + (o + 1)), .ref (b + (o + 2)), .ref (b + (o + 3)), .ref (b + (o + 4)), .ref (b + (o + 5)), .int 0, .null, .int 0, .int 0, .int 0, .int 0, .int 0, .null, .null, .null, .null, .null]))) (o + 6) = G (o + 6) := (upE_ne (by omega)).trans (if_neg (by omega))
  refine q_newa (atype := .byte) (ty := .byte) (t0 := 0) (N' := 400) (F' := upE (cmb o F G) o (.inr (10, [.int 0, .int 0, .ref (b + (o + 1)), .ref (b + (o + 2)), .ref (b + (o + 3)), .ref (b + (o + 4)), .ref (b + (o + 5)), .int 0, .null, .int 0, .int 0, .int 0, .int 0, .int 0, .null, .null, .null, .null, .null]))) C0 hR hS rfl mNM_1_60 rfl rfl (by decide) (by decide) (by decide) (by rw [e9]; exact g6) (fun x hx => rfl) (Nat.le_of_ble_eq_true rfl) (Nat.le_of_ble_eq_true rfl) dX12_init_52 (fun H hR hS => ?_)
  refine W.widen (k := 6) (n := 24143) (Nat.le_of_ble_eq_true rfl) (Nat.le_of_ble_eq_true rfl) ?_
  refine q_putF (o := o) (ci := 10) (C := RX12) (T := TX12) (N := 19) (j := 8) (v := .ref (b + (o + 6))) (ty := .array .byte) (F' := upE (cmb o F G) o (.inr (10, [.int 0, .int 0, .ref (b + (o + 1)), .ref (b + (o + 2)), .ref (b + (o + 3)), .ref (b + (o + 4)), .ref (b + (o + 5)), .int 0, .ref (b + (o + 6)), .int 0, .int 0, .int 0, .int 0, .int 0, .null, .null, .null, .null, .null]))) C0 hR hS tyX12 tyX12_ok nmX12 (by omega) (upE_self) rfl (by decide) tbs_wsX120 mNM_7_85 rfl hin2 rfl (by decide +kernel) rfl rfl (Nat.le_of_ble_eq_true rfl) (upE_self) (fun x hx h => by simp [upE, h]) dX12_init_54 (fun H locs hR hS => ?_)
  refine lv_aload_n hx hb dX12_init_57 rfl (lv_at hl 0 rfl) ?_
  refine lv_iconst (v := (-1)) hx hb dX12_init_58 (by decide) ?_
  refine q_put (o := o) (ci := 10) (C := RX12) (T := TX12) (N := 19) (j := 13) (v := .int (-1)) (ty := .int) (F' := upE (cmb o F G) o (.inr (10, [.int 0, .int 0, .ref (b + (o + 1)), .ref (b + (o + 2)), .ref (b + (o + 3)), .ref (b + (o + 4)), .ref (b + (o + 5)), .int 0, .ref (b + (o + 6)), .int 0, .int 0, .int 0, .int 0, .int (-1), .null, .null, .null, .null, .null]))) C0 hR hS tyX12 tyX12_ok nmX12 (by omega) (upE_self) rfl (by decide) tbs_wsX120 mNM_7_90 rfl (by decide +kernel) rfl rfl (Nat.le_of_ble_eq_true rfl) (upE_self) (fun x hx h => by simp [upE, h]) dX12_init_59 (fun H locs hR hS => ?_)
  refine lv_aload_n hx hb dX12_init_62 rfl (lv_at hl 0 rfl) ?_
  refine lv_iconst (v := 5) hx hb dX12_init_63 (by decide) ?_
  have e9 : (upE (cmb o F G) o (.inr (10, [.int 0, .int 0, .ref (b + (o + 1)), .ref (b + (o + 2)), .ref (b + (o + 3)), .ref (b + (o + 4)), .ref (b + (o + 5)), .int 0, .ref (b + (o + 6)), .int 0, .int 0, .int 0, .int 0, .int (-1), .null, .null, .null, .null, .null]))) (o + 7) = G (o + 7) := (upE_ne (by omega)).trans (if_neg (by omega))
  refine q_newa (atype := .int) (ty := .int) (t0 := 2) (N' := 5) (F' := upE (cmb o F G) o (.inr (10, [.int 0, .int 0, .ref (b + (o + 1)), .ref (b + (o + 2)), .ref (b + (o + 3)), .ref (b + (o + 4)), .ref (b + (o + 5)), .int 0, .ref (b + (o + 6)), .int 0, .int 0, .int 0, .int 0, .int (-1), .null, .null, .null, .null, .null]))) C0 hR hS rfl mNM_1_94 rfl rfl (by decide) (by decide) (by decide) (by rw [e9]; exact g7) (fun x hx => rfl) (Nat.le_of_ble_eq_true rfl) (Nat.le_of_ble_eq_true rfl) dX12_init_64 (fun H hR hS => ?_)
  refine W.widen (k := 7) (n := 24148) (Nat.le_of_ble_eq_true rfl) (Nat.le_of_ble_eq_true rfl) ?_
  refine q_putF (o := o) (ci := 10) (C := RX12) (T := TX12) (N := 19) (j := 14) (v := .ref (b + (o + 7))) (ty := .array .int) (F' := upE (cmb o F G) o (.inr (10, [.int 0, .int 0, .ref (b + (o + 1)), .ref (b + (o + 2)), .ref (b + (o + 3)), .ref (b + (o + 4)), .ref (b + (o + 5)), .int 0, .ref (b + (o + 6)), .int 0, .int 0, .int 0, .int 0, .int (-1), .ref (b + (o + 7)), .null, .null, .null, .null]))) C0 hR hS tyX12 tyX12_ok nmX12 (by omega) (upE_self) rfl (by decide) tbs_wsX120 mNM_7_91 rfl hin2 rfl (by decide +kernel) rfl rfl (Nat.le_of_ble_eq_true rfl) (upE_self) (fun x hx h => by simp [upE, h]) dX12_init_66 (fun H locs hR hS => ?_)
  refine lv_aload_n hx hb dX12_init_69 rfl (lv_at hl 0 rfl) ?_
  refine lv_bipush (v := 6) hx hb dX12_init_70 (by decide) ?_
  have e9 : (upE (cmb o F G) o (.inr (10, [.int 0, .int 0, .ref (b + (o + 1)), .ref (b + (o + 2)), .ref (b + (o + 3)), .ref (b + (o + 4)), .ref (b + (o + 5)), .int 0, .ref (b + (o + 6)), .int 0, .int 0, .int 0, .int 0, .int (-1), .ref (b + (o + 7)), .null, .null, .null, .null]))) (o + 8) = G (o + 8) := (upE_ne (by omega)).trans (if_neg (by omega))
  refine q_newa (atype := .int) (ty := .int) (t0 := 2) (N' := 6) (F' := upE (cmb o F G) o (.inr (10, [.int 0, .int 0, .ref (b + (o + 1)), .ref (b + (o + 2)), .ref (b + (o + 3)), .ref (b + (o + 4)), .ref (b + (o + 5)), .int 0, .ref (b + (o + 6)), .int 0, .int 0, .int 0, .int 0, .int (-1), .ref (b + (o + 7)), .null, .null, .null, .null]))) C0 hR hS rfl mNM_1_94 rfl rfl (by decide) (by decide) (by decide) (by rw [e9]; exact g8) (fun x hx => rfl) (Nat.le_of_ble_eq_true rfl) (Nat.le_of_ble_eq_true rfl) dX12_init_72 (fun H hR hS => ?_)
  refine W.widen (k := 8) (n := 24154) (Nat.le_of_ble_eq_true rfl) (Nat.le_of_ble_eq_true rfl) ?_
  refine q_putF (o := o) (ci := 10) (C := RX12) (T := TX12) (N := 19) (j := 15) (v := .ref (b + (o + 8))) (ty := .array .int) (F' := upE (cmb o F G) o (.inr (10, [.int 0, .int 0, .ref (b + (o + 1)), .ref (b + (o + 2)), .ref (b + (o + 3)), .ref (b + (o + 4)), .ref (b + (o + 5)), .int 0, .ref (b + (o + 6)), .int 0, .int 0, .int 0, .int 0, .int (-1), .ref (b + (o + 7)), .ref (b + (o + 8)), .null, .null, .null]))) C0 hR hS tyX12 tyX12_ok nmX12 (by omega) (upE_self) rfl (by decide) tbs_wsX120 mNM_7_92 rfl hin2 rfl (by decide +kernel) rfl rfl (Nat.le_of_ble_eq_true rfl) (upE_self) (fun x hx h => by simp [upE, h]) dX12_init_74 (fun H locs hR hS => ?_)
  refine lv_aload_n hx hb dX12_init_77 rfl (lv_at hl 0 rfl) ?_
  refine lv_bipush (v := 6) hx hb dX12_init_78 (by decide) ?_
  have e9 : (upE (cmb o F G) o (.inr (10, [.int 0, .int 0, .ref (b + (o + 1)), .ref (b + (o + 2)), .ref (b + (o + 3)), .ref (b + (o + 4)), .ref (b + (o + 5)), .int 0, .ref (b + (o + 6)), .int 0, .int 0, .int 0, .int 0, .int (-1), .ref (b + (o + 7)), .ref (b + (o + 8)), .null, .null, .null]))) (o + 9) = G (o + 9) := (upE_ne (by omega)).trans (if_neg (by omega))
  refine q_newa (atype := .int) (ty := .int) (t0 := 2) (N' := 6) (F' := upE (cmb o F G) o (.inr (10, [.int 0, .int 0, .ref (b + (o + 1)), .ref (b + (o + 2)), .ref (b + (o + 3)), .ref (b + (o + 4)), .ref (b + (o + 5)), .int 0, .ref (b + (o + 6)), .int 0, .int 0, .int 0, .int 0, .int (-1), .ref (b + (o + 7)), .ref (b + (o + 8)), .null, .null, .null]))) C0 hR hS rfl mNM_1_94 rfl rfl (by decide) (by decide) (by decide) (by rw [e9]; exact g9) (fun x hx => rfl) (Nat.le_of_ble_eq_true rfl) (Nat.le_of_ble_eq_true rfl) dX12_init_80 (fun H hR hS => ?_)
  refine W.widen (k := 9) (n := 24160) (Nat.le_of_ble_eq_true rfl) (Nat.le_of_ble_eq_true rfl) ?_
  refine q_putF (o := o) (ci := 10) (C := RX12) (T := TX12) (N := 19) (j := 16) (v := .ref (b + (o + 9))) (ty := .array .int) (F' := upE (cmb o F G) o (.inr (10, [.int 0, .int 0, .ref (b + (o + 1)), .ref (b + (o + 2)), .ref (b + (o + 3)), .ref (b + (o + 4)), .ref (b + (o + 5)), .int 0, .ref (b + (o + 6)), .int 0, .int 0, .int 0, .int 0, .int (-1), .ref (b + (o + 7)), .ref (b + (o + 8)), .ref (b + (o + 9)), .null, .null]))) C0 hR hS tyX12 tyX12_ok nmX12 (by omega) (upE_self) rfl (by decide) tbs_wsX120 mNM_7_93 rfl hin2 rfl (by decide +kernel) rfl rfl (Nat.le_of_ble_eq_true rfl) (upE_self) (fun x hx h => by simp [upE, h]) dX12_init_82 (fun H locs hR hS => ?_)
  refine lv_aload_n hx hb dX12_init_85 rfl (lv_at hl 0 rfl) ?_
  refine lv_bipush (v := 48) hx hb dX12_init_86 (by decide) ?_
  have e9 : (upE (cmb o F G) o (.inr (10, [.int 0, .int 0, .ref (b + (o + 1)), .ref (b + (o + 2)), .ref (b + (o + 3)), .ref (b + (o + 4)), .ref (b + (o + 5)), .int 0, .ref (b + (o + 6)), .int 0, .int 0, .int 0, .int 0, .int (-1), .ref (b + (o + 7)), .ref (b + (o + 8)), .ref (b + (o + 9)), .null, .null]))) (o + 10) = G (o + 10) := (upE_ne (by omega)).trans (if_neg (by omega))
  refine q_newa (atype := .int) (ty := .int) (t0 := 2) (N' := 48) (F' := upE (cmb o F G) o (.inr (10, [.int 0, .int 0, .ref (b + (o + 1)), .ref (b + (o + 2)), .ref (b + (o + 3)), .ref (b + (o + 4)), .ref (b + (o + 5)), .int 0, .ref (b + (o + 6)), .int 0, .int 0, .int 0, .int 0, .int (-1), .ref (b + (o + 7)), .ref (b + (o + 8)), .ref (b + (o + 9)), .null, .null]))) C0 hR hS rfl mNM_1_94 rfl rfl (by decide) (by decide) (by decide) (by rw [e9]; exact g10) (fun x hx => rfl) (Nat.le_of_ble_eq_true rfl) (Nat.le_of_ble_eq_true rfl) dX12_init_88 (fun H hR hS => ?_)
  refine W.widen (k := 10) (n := 24208) (Nat.le_of_ble_eq_true rfl) (Nat.le_of_ble_eq_true rfl) ?_
  refine q_putF (o := o) (ci := 10) (C := RX12) (T := TX12) (N := 19) (j := 17) (v := .ref (b + (o + 10))) (ty := .array .int) (F' := upE (cmb o F G) o (.inr (10, [.int 0, .int 0, .ref (b + (o + 1)), .ref (b + (o + 2)), .ref (b + (o + 3)), .ref (b + (o + 4)), .ref (b + (o + 5)), .int 0, .ref (b + (o + 6)), .int 0, .int 0, .int 0, .int 0, .int (-1), .ref (b + (o + 7)), .ref (b + (o + 8)), .ref (b + (o + 9)), .ref (b + (o + 10)), .null]))) C0 hR hS tyX12 tyX12_ok nmX12 (by omega) (upE_self) rfl (by decide) tbs_wsX120 mNM_7_94 rfl hin2 rfl (by decide +kernel) rfl rfl (Nat.le_of_ble_eq_true rfl) (upE_self) (fun x hx h => by simp [upE, h]) dX12_init_90 (fun H locs hR hS => ?_)
  refine lv_aload_n hx hb dX12_init_93 rfl (lv_at hl 0 rfl) ?_
  refine lv_bipush (v := 24) hx hb dX12_init_94 (by decide) ?_
  have e9 : (upE (cmb o F G) o (.inr (10, [.int 0, .int 0, .ref (b + (o + 1)), .ref (b + (o + 2)), .ref (b + (o + 3)), .ref (b + (o + 4)), .ref (b + (o + 5)), .int 0, .ref (b + (o + 6)), .int 0, .int 0, .int 0, .int 0, .int (-1), .ref (b + (o + 7)), .ref (b + (o + 8)), .ref (b + (o + 9)), .ref (b + (o + 10)), .null]))) (o + 11) = G (o + 11) := (upE_ne (by omega)).trans (if_neg (by omega))
  refine q_newa (atype := .int) (ty := .int) (t0 := 2) (N' := 24) (F' := upE (cmb o F G) o (.inr (10, [.int 0, .int 0, .ref (b + (o + 1)), .ref (b + (o + 2)), .ref (b + (o + 3)), .ref (b + (o + 4)), .ref (b + (o + 5)), .int 0, .ref (b + (o + 6)), .int 0, .int 0, .int 0, .int 0, .int (-1), .ref (b + (o + 7)), .ref (b + (o + 8)), .ref (b + (o + 9)), .ref (b + (o + 10)), .null]))) C0 hR hS rfl mNM_1_94 rfl rfl (by decide) (by decide) (by decide) (by rw [e9]; exact g11) (fun x hx => rfl) (Nat.le_of_ble_eq_true rfl) (Nat.le_of_ble_eq_true rfl) dX12_init_96 (fun H hR hS => ?_)
  refine W.widen (k := 11) (n := 24232) (Nat.le_of_ble_eq_true rfl) (Nat.le_of_ble_eq_true rfl) ?_
  refine q_putF (o := o) (ci := 10) (C := RX12) (T := TX12) (N := 19) (j := 18) (v := .ref (b + (o + 11))) (ty := .array .int) (F' := upE (cmb o F G) o (.inr (10, [.int 0, .int 0, .ref (b + (o + 1)), .ref (b + (o + 2)), .ref (b + (o + 3)), .ref (b + (o + 4)), .ref (b + (o + 5)), .int 0, .ref (b + (o + 6)), .int 0, .int 0, .int 0, .int 0, .int (-1), .ref (b + (o + 7)), .ref (b + (o + 8)), .ref (b + (o + 9)), .ref (b + (o + 10)), .ref (b + (o + 11))]))) C0 hR hS tyX12 tyX12_ok nmX12 (by omega) (upE_self) rfl (by decide) tbs_wsX120 mNM_7_95 rfl hin2 rfl (by decide +kernel) rfl rfl (Nat.le_of_ble_eq_true rfl) (upE_self) (fun x hx h => by simp [upE, h]) dX12_init_98 (fun H locs hR hS => ?_)
  have hR : qRel D cy b (o + 12) (cmb o F G) s _ := hR.drop (by rw [show cmb o F G o = G o from if_neg (by omega), g0]; exact sameE.rf)
  refine W.widen (k := 11) (n := 24232) (Nat.le_of_ble_eq_true rfl) (Nat.le_of_ble_eq_true rfl) ?_
  subst ho
  have hR : qRel D cy b 12 G s _ := hR.ext (fun x hx => (if_neg (by omega) : cmb 0 F G x = G x).symm)
  subst hGd
  rw [gA_eq]
  have hR : RelM D cy b (b + 12) tx S0m s _ := ⟨⟨hR.1, hR.2.1, Nat.le_of_eq hR.2.2.symm⟩, trivial, hxb, Nat.le_trans hxb (Nat.le_add_right _ _), hXW.kept fun a ha hn => hS.2.1 a ha fun h9 => hn (Nat.le_trans hxb h9)⟩
  rw [← gA_eq b 12] at hS ⊢
  generalize hz : b + 12 = z at hR hS ⊢
  unfold F_X12_init2 at h
  have hl : lv_has ls 2 [(0, .ref (b + adM 0 0))] := lv_sub hl [0] rfl
  refine lv_iconst (v := 0) hx hb dX12_init_101 (by decide) ?_
  refine lv_istore_n (lv' := [(1, .int 0), (0, .ref (b + adM 0 0))]) hx hb dX12_init_102 rfl hl (by decide) rfl (fun ls hl => ?_)
  exact Bw_X12_init_103 C0 hr hlk hT fuel 0 S0m _ _ _ h hR hS (lv_sub hl [1, 0] rfl)
end CON
