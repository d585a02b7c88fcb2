def CSX (w a1 a2 a3 a4 a5 : Int32) (Sc Sm : sSt) (o : Int64) (K : sSt → sSt → Int64 → Prop) : Prop := ((w &&& 63) = 0 → CS_0 a1 a2 a3 a4 a5 Sc Sm o K) ∧ ((w &&& 63) = 1 → CS_1 a1 a2 a3 a4 a5 Sc Sm o K) ∧ ((w &&& 63) = 2 → CS_2 a1 a2 a3 a4 a5 Sc Sm o K) ∧ ((w &&& 63) = 3 → CS_3 a1 a2 a3 a4 a5 Sc Sm o K) ∧ ((w &&& 63) = 4 → CS_4 a1 a2 a3 a4 a5 Sc Sm o K) ∧ ((w &&& 63) = 5 → CS_5 a1 a2 a3 a4 a5 Sc Sm o K) ∧ ((w &&& 63) = 6 → CS_6 a1 a2 a3 a4 a5 Sc Sm o K) ∧ ((w &&& 63) = 7 → CS_7 a1 a2 a3 a4 a5 Sc Sm o K) ∧ ((w &&& 63) = 8 → CS_8 a1 a2 a3 a4 a5 Sc Sm o K) ∧ ((w &&& 63) = 9 → CS_9 a1 a2 a3 a4 a5 Sc Sm o K) ∧ ((w &&& 63) = 10 → CS_10 a1 a2 a3 a4 a5 Sc Sm o K) ∧ ((w &&& 63) = 11 → CS_11 a1 a2 a3 a4 a5 Sc Sm o K) ∧ ((w &&& 63) = 12 → CS_12 a1 a2 a3 a4 a5 Sc Sm o K) ∧ ((w &&& 63) = 13 → CS_13 a1 a2 a3 a4 a5 Sc Sm o K) ∧ ((w &&& 63) = 14 → CS_14 a1 a2 a3 a4 a5 Sc Sm o K) ∧ ((w &&& 63) = 15 → CS_15 a1 a2 a3 a4 a5 Sc Sm o K) ∧ ((w &&& 63) = 16 → CS_16 a1 a2 a3 a4 a5 Sc Sm o K) ∧ ((w &&& 63) = 17 → CS_17 a1 a2 a3 a4 a5 Sc Sm o K) ∧ ((w &&& 63) = 18 → CS_18 a1 a2 a3 a4 a5 Sc Sm o K) ∧ ((w &&& 63) = 19 → CS_19 a1 a2 a3 a4 a5 Sc Sm o K) ∧ ((w &&& 63) = 20 → CS_20 a1 a2 a3 a4 a5 Sc Sm o K) ∧ ((w &&& 63) = 21 → CS_21 a1 a2 a3 a4 a5 Sc Sm o K) ∧ ((w &&& 63) = 22 → CS_22 a1 a2 a3 a4 a5 Sc Sm o K) ∧ ((w &&& 63) = 23 → CS_23 a1 a2 a3 a4 a5 Sc Sm o K) ∧ ((w &&& 63) = 24 → CS_24 a1 a2 a3 a4 a5 Sc Sm o K) ∧ ((w &&& 63) = 25 → CS_25 a1 a2 a3 a4 a5 Sc Sm o K) ∧ ((w &&& 63) = 26 → CS_26 a1 a2 a3 a4 a5 Sc Sm o K) ∧ ((w &&& 63) = 27 → CS_27 a1 a2 a3 a4 a5 Sc Sm o K) ∧ ((w &&& 63) = 28 → CS_28 a1 a2 a3 a4 a5 Sc Sm o K) ∧ ((w &&& 63) = 29 → CS_29 a1 a2 a3 a4 a5 Sc Sm o K) ∧ ((w &&& 63) = 30 → CS_30 a1 a2 a3 a4 a5 Sc Sm o K) ∧ ((w &&& 63) = 31 → CS_31 a1 a2 a3 a4 a5 Sc Sm o K) ∧ ((w &&& 63) = 32 → CS_32 a1 a2 a3 a4 a5 Sc Sm o K) ∧ ((w &&& 63) = 33 → CS_33 a1 a2 a3 a4 a5 Sc Sm o K) ∧ ((w &&& 63) = 34 → CS_34 a1 a2 a3 a4 a5 Sc Sm o K) ∧ ((w &&& 63) = 35 → CS_35 a1 a2 a3 a4 a5 Sc Sm o K) ∧ ((w &&& 63) = 36 → CS_36 a1 a2 a3 a4 a5 Sc Sm o K) ∧ ((w &&& 63) = 37 → CS_37 a1 a2 a3 a4 a5 Sc Sm o K) ∧ ((w &&& 63) = 38 → CS_38 a1 a2 a3 a4 a5 Sc Sm o K) ∧ ((w &&& 63) = 39 → CS_39 a1 a2 a3 a4 a5 Sc Sm o K) ∧ ((w &&& 63) = 40 → CS_40 a1 a2 a3 a4 a5 Sc Sm o K) ∧ ((w &&& 63) = 41 → CS_41 a1 a2 a3 a4 a5 Sc Sm o K) ∧ ((w &&& 63) = 42 → CS_42 a1 a2 a3 a4 a5 Sc Sm o K) ∧ ((w &&& 63) = 43 → CS_43 a1 a2 a3 a4 a5 Sc Sm o K) ∧ ((w &&& 63) = 44 → CS_44 a1 a2 a3 a4 a5 Sc Sm o K) ∧ ((∀ j : Nat, j < 45 → ¬ (w &&& 63) = nI j) → K Sc Sm o)
theorem lw_end (L t : Nat) (hL3 : L ≤ 3072) (ht : 6 * t ≤ 3072) : (nI L - 6 < nI (6 * t)) ↔ L < 6 * t + 6 := by
  rw [Int32.lt_iff_toInt_lt, Int32.toInt_sub, nI_toInt (by omega), nI_toInt (by omega)]
  show (((L : Int) - 6).bmod (2 ^ 32) < ((6 * t : Nat) : Int)) ↔ _
  rw [Int.bmod_eq_of_le (by omega) (by omega)]
  omega
section LOOP
variable {p : Program} {l : Launch} {e : Env} {s : State} {m : MethodId} {args : Array Value} {below : List Frame} {meth : Method} {c : Code} {Q : State → Prop} {D : va_G} {cy : Nat → ClassId} {b b0 L : Nat} {tx : TX} {xs : Nat → Int32}
set_option maxHeartbeats 8000000 in
set_option maxRecDepth 100000 in
theorem law_loop (hl0 : l.stackTraces = false) (C0 : CallFix p m c cL_law 7 s args TB RL) (hT : TxR tx s) (hN : TxN s) (hX : va_X b0 L xs s s.heap) (hbl : b0 < s.heap.size) (hb1 : b = s.heap.size) (hL3 : L ≤ 3072) {Inv : Nat → sSt → sSt → Prop}
    (hstep : ∀ (t : Nat) (Sc Sm : sSt) (o : Int64) (w a1 a2 a3 a4 a5 : Int32), t < 512 → Inv t Sc Sm → CSX w a1 a2 a3 a4 a5 Sc Sm o (fun S1 S2 _ => Inv (t + 1) S1 S2)) {c0 s0 : Nat} (hc1 : c0 + 6 * 512 ≤ room_1.cells) (hc2 : s0 + 36 * 512 ≤ room_1.slots)
    (hret : ∀ (H : Heap) (locs : List Loc) (ls : Array Slot) (cells slots : Nat), cells ≤ room_1.cells → slots ≤ room_1.slots → va_S (bA b) s.heap H locs → W p l e room_1 s m args below meth c H locs cells slots Q (F0 m 2865 ls [.int 1])) :
    ∀ (k t : Nat), L < 6 * t + 6 * k + 6 → 6 * t ≤ L → ∀ {Sc Sm : sSt} {o : Int64} {H : Heap} {locs : List Loc} {ls : Array Slot}, Inv t Sc Sm → RelL D cy b tx Sc Sm o s H → va_S (bA b) s.heap H locs → lv_has ls 7 [(0, .ref b0), (1, .ref (b + adC 0 0)), (2, .ref (b + 709 + adM 0 0)), (3, .ref (b + 721)), (4, .int (nI (6 * t)))] → W p l e room_1 s m args below meth c H locs (c0 + 6 * t) (s0 + 36 * t) Q (F0 m 23 ls []) := by
  have hx := C0.1
  have hb := C0.2.1
  intro k
  induction k with
  | zero =>
    intro t hk ht Sc Sm o H locs ls hI hR hS hl
    refine lv_iload hx hb dL_law_23 (lv_at hl 4 rfl) ?_
    refine lv_aload_n hx hb dL_law_25 rfl (lv_at hl 0 rfl) ?_
    refine va_slen hx hb hX hbl (A := bA b) (fun h => by have h : b ≤ b0 := h; omega) hS dL_law_26 ?_
    refine lv_bipush (v := 6) hx hb dL_law_27 (by decide) ?_
    refine lv_isub hx hb dL_law_29 ?_
    refine lv_icmp_gt (tgt := 2864) hx hb dL_law_30 (by decide) (fun q => ?_) (fun q => absurd ((lw_end L t hL3 (by omega)).mpr (by omega)) q)
    refine lv_iconst (v := 1) hx hb dL_law_2864 (by decide) ?_
    exact hret _ _ _ _ _ (by omega) (by omega) hS
  | succ k ih =>
    intro t hk ht Sc Sm o H locs ls hI hR hS hl
    refine lv_iload hx hb dL_law_23 (lv_at hl 4 rfl) ?_
    refine lv_aload_n hx hb dL_law_25 rfl (lv_at hl 0 rfl) ?_
    refine va_slen hx hb hX hbl (A := bA b) (fun h => by have h : b ≤ b0 := h; omega) hS dL_law_26 ?_
    refine lv_bipush (v := 6) hx hb dL_law_27 (by decide) ?_
    refine lv_isub hx hb dL_law_29 ?_
    refine lv_icmp_gt (tgt := 2864) hx hb dL_law_30 (by decide) (fun q => ?_) (fun q => ?_)
    · refine lv_iconst (v := 1) hx hb dL_law_2864 (by decide) ?_
      exact hret _ _ _ _ _ (by omega) (by omega) hS
    have ht6 : 6 * t + 6 ≤ L := Nat.not_lt.mp fun q9 => q ((lw_end L t hL3 (by omega)).mpr q9)
    refine lv_aload_n hx hb dL_law_33 rfl (lv_at hl 0 rfl) ?_
    refine lv_iload hx hb dL_law_34 (lv_at hl 4 rfl) ?_
    refine lw_sld (v := xs (6 * t)) C0 hX hbl hb1 hS rfl (show 6 * t < L by omega) hL3 rfl dL_law_36 ?_
    refine lv_bipush (v := 63) hx hb dL_law_37 (by decide) ?_
    refine lv_iand hx hb dL_law_39 ?_
    have h := hstep t Sc Sm o (xs (6 * t)) (xs (6 * t + 1)) (xs (6 * t + 2)) (xs (6 * t + 3)) (xs (6 * t + 4)) (xs (6 * t + 5)) (by omega) hI
    unfold CSX at h
    have next : ∀ (S1 S2 : sSt) (o1 : Int64) (H1 : Heap) (locs1 : List Loc) (ls1 : Array Slot), Inv (t + 1) S1 S2 → RelL D cy b tx S1 S2 o1 s H1 → va_S (bA b) s.heap H1 locs1 → lv_has ls1 7 [(0, .ref b0), (1, .ref (b + adC 0 0)), (2, .ref (b + 709 + adM 0 0)), (3, .ref (b + 721)), (4, .int (nI (6 * t)))] → W p l e room_1 s m args below meth c H1 locs1 (c0 + 6 * t + 6) (s0 + 36 * t + 36) Q (F0 m 2858 ls1 []) := by
      intro S1 S2 o1 H1 locs1 ls1 hI hR hS hl
      refine w_iinc (v0 := 6) (lv' := [(4, .int (nI (6 * (t + 1)))), (0, .ref b0), (1, .ref (b + adC 0 0)), (2, .ref (b + 709 + adM 0 0)), (3, .ref (b + 721))]) C0 dL_law_2858 hl (k := 4) rfl (by decide) (by decide) (nI (6 * (t + 1))) (nI_add (6 * t) 6).symm rfl (fun ls1 hl => ?_)
      refine lv_goto (tgt := 23) hx hb dL_law_2861 (by decide) ?_
      exact ih (t + 1) (by omega) (by omega) hI hR hS (lv_sub hl [1, 2, 3, 4, 0] rfl)
    generalize hw : xs (6 * t) &&& 63 = w9 at h ⊢
    by_cases nc0 : w9 = 0
    · have h := h.1 nc0
      refine lv_tableIn (tgt := 236) hx hb dL_law_40 (by rw [nc0]; decide) (by rw [nc0]; decide) (by rw [nc0]; rfl) (by decide) ?_
      exact LW_0 hl0 C0 hT hN hX hbl hb1 hL3 t ht6 (by omega) (by omega) h hR hS hl next
    have h := h.2
    by_cases nc1 : w9 = 1
    · have h := h.1 nc1
      refine lv_tableIn (tgt := 309) hx hb dL_law_40 (by rw [nc1]; decide) (by rw [nc1]; decide) (by rw [nc1]; rfl) (by decide) ?_
      exact LW_1 hl0 C0 hT hN hX hbl hb1 hL3 t ht6 (by omega) (by omega) h hR hS hl next
    have h := h.2
    by_cases nc2 : w9 = 2
    · have h := h.1 nc2
      refine lv_tableIn (tgt := 334) hx hb dL_law_40 (by rw [nc2]; decide) (by rw [nc2]; decide) (by rw [nc2]; rfl) (by decide) ?_
      exact LW_2 hl0 C0 hT hN hX hbl hb1 hL3 t ht6 (by omega) (by omega) h hR hS hl next
    have h := h.2
    by_cases nc3 : w9 = 3
    · have h := h.1 nc3
      refine lv_tableIn (tgt := 378) hx hb dL_law_40 (by rw [nc3]; decide) (by rw [nc3]; decide) (by rw [nc3]; rfl) (by decide) ?_
      exact LW_3 hl0 C0 hT hN hX hbl hb1 hL3 t ht6 (by omega) (by omega) h hR hS hl next
    have h := h.2
    by_cases nc4 : w9 = 4
    · have h := h.1 nc4
      refine lv_tableIn (tgt := 434) hx hb dL_law_40 (by rw [nc4]; decide) (by rw [nc4]; decide) (by rw [nc4]; rfl) (by decide) ?_
      exact LW_4 hl0 C0 hT hN hX hbl hb1 hL3 t ht6 (by omega) (by omega) h hR hS hl next
    have h := h.2
    by_cases nc5 : w9 = 5
    · have h := h.1 nc5
      refine lv_tableIn (tgt := 447) hx hb dL_law_40 (by rw [nc5]; decide) (by rw [nc5]; decide) (by rw [nc5]; rfl) (by decide) ?_
      exact LW_5 hl0 C0 hT hN hX hbl hb1 hL3 t ht6 (by omega) (by omega) h hR hS hl next
    have h := h.2
    by_cases nc6 : w9 = 6
    · have h := h.1 nc6
      refine lv_tableIn (tgt := 460) hx hb dL_law_40 (by rw [nc6]; decide) (by rw [nc6]; decide) (by rw [nc6]; rfl) (by decide) ?_
      exact LW_6 hl0 C0 hT hN hX hbl hb1 hL3 t ht6 (by omega) (by omega) h hR hS hl next
    have h := h.2
    by_cases nc7 : w9 = 7
    · have h := h.1 nc7
      refine lv_tableIn (tgt := 516) hx hb dL_law_40 (by rw [nc7]; decide) (by rw [nc7]; decide) (by rw [nc7]; rfl) (by decide) ?_
      exact LW_7 hl0 C0 hT hN hX hbl hb1 hL3 t ht6 (by omega) (by omega) h hR hS hl next
    have h := h.2
    by_cases nc8 : w9 = 8
    · have h := h.1 nc8
      refine lv_tableIn (tgt := 572) hx hb dL_law_40 (by rw [nc8]; decide) (by rw [nc8]; decide) (by rw [nc8]; rfl) (by decide) ?_
      exact LW_8 hl0 C0 hT hN hX hbl hb1 hL3 t ht6 (by omega) (by omega) h hR hS hl next
    have h := h.2
    by_cases nc9 : w9 = 9
    · have h := h.1 nc9
      refine lv_tableIn (tgt := 640) hx hb dL_law_40 (by rw [nc9]; decide) (by rw [nc9]; decide) (by rw [nc9]; rfl) (by decide) ?_
      exact LW_9 hl0 C0 hT hN hX hbl hb1 hL3 t ht6 (by omega) (by omega) h hR hS hl next
    have h := h.2
    by_cases nc10 : w9 = 10
    · have h := h.1 nc10
      refine lv_tableIn (tgt := 696) hx hb dL_law_40 (by rw [nc10]; decide) (by rw [nc10]; decide) (by rw [nc10]; rfl) (by decide) ?_
      exact LW_10 hl0 C0 hT hN hX hbl hb1 hL3 t ht6 (by omega) (by omega) h hR hS hl next
    have h := h.2
    by_cases nc11 : w9 = 11
    · have h := h.1 nc11
      refine lv_tableIn (tgt := 752) hx hb dL_law_40 (by rw [nc11]; decide) (by rw [nc11]; decide) (by rw [nc11]; rfl) (by decide) ?_
      exact LW_11 hl0 C0 hT hN hX hbl hb1 hL3 t ht6 (by omega) (by omega) h hR hS hl next
    have h := h.2
    by_cases nc12 : w9 = 12
    · have h := h.1 nc12
      refine lv_tableIn (tgt := 808) hx hb dL_law_40 (by rw [nc12]; decide) (by rw [nc12]; decide) (by rw [nc12]; rfl) (by decide) ?_
      exact LW_12 hl0 C0 hT hN hX hbl hb1 hL3 t ht6 (by omega) (by omega) h hR hS hl next
    have h := h.2
    by_cases nc13 : w9 = 13
    · have h := h.1 nc13
      refine lv_tableIn (tgt := 888) hx hb dL_law_40 (by rw [nc13]; decide) (by rw [nc13]; decide) (by rw [nc13]; rfl) (by decide) ?_
      exact LW_13 hl0 C0 hT hN hX hbl hb1 hL3 t ht6 (by omega) (by omega) h hR hS hl next
    have h := h.2
    by_cases nc14 : w9 = 14
    · have h := h.1 nc14
      refine lv_tableIn (tgt := 968) hx hb dL_law_40 (by rw [nc14]; decide) (by rw [nc14]; decide) (by rw [nc14]; rfl) (by decide) ?_
      exact LW_14 hl0 C0 hT hN hX hbl hb1 hL3 t ht6 (by omega) (by omega) h hR hS hl next
    have h := h.2
    by_cases nc15 : w9 = 15
    · have h := h.1 nc15
      refine lv_tableIn (tgt := 1060) hx hb dL_law_40 (by rw [nc15]; decide) (by rw [nc15]; decide) (by rw [nc15]; rfl) (by decide) ?_
      exact LW_15 hl0 C0 hT hN hX hbl hb1 hL3 t ht6 (by omega) (by omega) h hR hS hl next
    have h := h.2
    by_cases nc16 : w9 = 16
    · have h := h.1 nc16
      refine lv_tableIn (tgt := 1140) hx hb dL_law_40 (by rw [nc16]; decide) (by rw [nc16]; decide) (by rw [nc16]; rfl) (by decide) ?_
      exact LW_16 hl0 C0 hT hN hX hbl hb1 hL3 t ht6 (by omega) (by omega) h hR hS hl next
    have h := h.2
    by_cases nc17 : w9 = 17
    · have h := h.1 nc17
      refine lv_tableIn (tgt := 1196) hx hb dL_law_40 (by rw [nc17]; decide) (by rw [nc17]; decide) (by rw [nc17]; rfl) (by decide) ?_
      exact LW_17 hl0 C0 hT hN hX hbl hb1 hL3 t ht6 (by omega) (by omega) h hR hS hl next
    have h := h.2
    by_cases nc18 : w9 = 18
    · have h := h.1 nc18
      refine lv_tableIn (tgt := 1264) hx hb dL_law_40 (by rw [nc18]; decide) (by rw [nc18]; decide) (by rw [nc18]; rfl) (by decide) ?_
      exact LW_18 hl0 C0 hT hN hX hbl hb1 hL3 t ht6 (by omega) (by omega) h hR hS hl next
    have h := h.2
    by_cases nc19 : w9 = 19
    · have h := h.1 nc19
      refine lv_tableIn (tgt := 1356) hx hb dL_law_40 (by rw [nc19]; decide) (by rw [nc19]; decide) (by rw [nc19]; rfl) (by decide) ?_
      exact LW_19 hl0 C0 hT hN hX hbl hb1 hL3 t ht6 (by omega) (by omega) h hR hS hl next
    have h := h.2
    by_cases nc20 : w9 = 20
    · have h := h.1 nc20
      refine lv_tableIn (tgt := 1369) hx hb dL_law_40 (by rw [nc20]; decide) (by rw [nc20]; decide) (by rw [nc20]; rfl) (by decide) ?_
      exact LW_20 hl0 C0 hT hN hX hbl hb1 hL3 t ht6 (by omega) (by omega) h hR hS hl next
    have h := h.2
    by_cases nc21 : w9 = 21
    · have h := h.1 nc21
      refine lv_tableIn (tgt := 1425) hx hb dL_law_40 (by rw [nc21]; decide) (by rw [nc21]; decide) (by rw [nc21]; rfl) (by decide) ?_
      exact LW_21 hl0 C0 hT hN hX hbl hb1 hL3 t ht6 (by omega) (by omega) h hR hS hl next
    have h := h.2
    by_cases nc22 : w9 = 22
    · have h := h.1 nc22
      refine lv_tableIn (tgt := 1481) hx hb dL_law_40 (by rw [nc22]; decide) (by rw [nc22]; decide) (by rw [nc22]; rfl) (by decide) ?_
      exact LW_22 hl0 C0 hT hN hX hbl hb1 hL3 t ht6 (by omega) (by omega) h hR hS hl next
    have h := h.2
    by_cases nc23 : w9 = 23
    · have h := h.1 nc23
      refine lv_tableIn (tgt := 1561) hx hb dL_law_40 (by rw [nc23]; decide) (by rw [nc23]; decide) (by rw [nc23]; rfl) (by decide) ?_
      exact LW_23 hl0 C0 hT hN hX hbl hb1 hL3 t ht6 (by omega) (by omega) h hR hS hl next
    have h := h.2
    by_cases nc24 : w9 = 24
    · have h := h.1 nc24
      refine lv_tableIn (tgt := 1641) hx hb dL_law_40 (by rw [nc24]; decide) (by rw [nc24]; decide) (by rw [nc24]; rfl) (by decide) ?_
      exact LW_24 hl0 C0 hT hN hX hbl hb1 hL3 t ht6 (by omega) (by omega) h hR hS hl next
    have h := h.2
    by_cases nc25 : w9 = 25
    · have h := h.1 nc25
      refine lv_tableIn (tgt := 1697) hx hb dL_law_40 (by rw [nc25]; decide) (by rw [nc25]; decide) (by rw [nc25]; rfl) (by decide) ?_
      exact LW_25 hl0 C0 hT hN hX hbl hb1 hL3 t ht6 (by omega) (by omega) h hR hS hl next
    have h := h.2
    by_cases nc26 : w9 = 26
    · have h := h.1 nc26
      refine lv_tableIn (tgt := 1765) hx hb dL_law_40 (by rw [nc26]; decide) (by rw [nc26]; decide) (by rw [nc26]; rfl) (by decide) ?_
      exact LW_26 hl0 C0 hT hN hX hbl hb1 hL3 t ht6 (by omega) (by omega) h hR hS hl next
    have h := h.2
    by_cases nc27 : w9 = 27
    · have h := h.1 nc27
      refine lv_tableIn (tgt := 1833) hx hb dL_law_40 (by rw [nc27]; decide) (by rw [nc27]; decide) (by rw [nc27]; rfl) (by decide) ?_
      exact LW_27 hl0 C0 hT hN hX hbl hb1 hL3 t ht6 (by omega) (by omega) h hR hS hl next
    have h := h.2
    by_cases nc28 : w9 = 28
    · have h := h.1 nc28
      refine lv_tableIn (tgt := 1908) hx hb dL_law_40 (by rw [nc28]; decide) (by rw [nc28]; decide) (by rw [nc28]; rfl) (by decide) ?_
      exact LW_28 hl0 C0 hT hN hX hbl hb1 hL3 t ht6 (by omega) (by omega) h hR hS hl next
    have h := h.2
    by_cases nc29 : w9 = 29
    · have h := h.1 nc29
      refine lv_tableIn (tgt := 1976) hx hb dL_law_40 (by rw [nc29]; decide) (by rw [nc29]; decide) (by rw [nc29]; rfl) (by decide) ?_
      exact LW_29 hl0 C0 hT hN hX hbl hb1 hL3 t ht6 (by omega) (by omega) h hR hS hl next
    have h := h.2
    by_cases nc30 : w9 = 30
    · have h := h.1 nc30
      refine lv_tableIn (tgt := 2044) hx hb dL_law_40 (by rw [nc30]; decide) (by rw [nc30]; decide) (by rw [nc30]; rfl) (by decide) ?_
      exact LW_30 hl0 C0 hT hN hX hbl hb1 hL3 t ht6 (by omega) (by omega) h hR hS hl next
    have h := h.2
    by_cases nc31 : w9 = 31
    · have h := h.1 nc31
      refine lv_tableIn (tgt := 2112) hx hb dL_law_40 (by rw [nc31]; decide) (by rw [nc31]; decide) (by rw [nc31]; rfl) (by decide) ?_
      exact LW_31 hl0 C0 hT hN hX hbl hb1 hL3 t ht6 (by omega) (by omega) h hR hS hl next
    have h := h.2
    by_cases nc32 : w9 = 32
    · have h := h.1 nc32
      refine lv_tableIn (tgt := 2180) hx hb dL_law_40 (by rw [nc32]; decide) (by rw [nc32]; decide) (by rw [nc32]; rfl) (by decide) ?_
      exact LW_32 hl0 C0 hT hN hX hbl hb1 hL3 t ht6 (by omega) (by omega) h hR hS hl next
    have h := h.2
    by_cases nc33 : w9 = 33
    · have h := h.1 nc33
      refine lv_tableIn (tgt := 2260) hx hb dL_law_40 (by rw [nc33]; decide) (by rw [nc33]; decide) (by rw [nc33]; rfl) (by decide) ?_
      exact LW_33 hl0 C0 hT hN hX hbl hb1 hL3 t ht6 (by omega) (by omega) h hR hS hl next
    have h := h.2
    by_cases nc34 : w9 = 34
    · have h := h.1 nc34
      refine lv_tableIn (tgt := 2344) hx hb dL_law_40 (by rw [nc34]; decide) (by rw [nc34]; decide) (by rw [nc34]; rfl) (by decide) ?_
      exact LW_34 hl0 C0 hT hN hX hbl hb1 hL3 t ht6 (by omega) (by omega) h hR hS hl next
    have h := h.2
    by_cases nc35 : w9 = 35
    · have h := h.1 nc35
      refine lv_tableIn (tgt := 2412) hx hb dL_law_40 (by rw [nc35]; decide) (by rw [nc35]; decide) (by rw [nc35]; rfl) (by decide) ?_
      exact LW_35 hl0 C0 hT hN hX hbl hb1 hL3 t ht6 (by omega) (by omega) h hR hS hl next
    have h := h.2
    by_cases nc36 : w9 = 36
    · have h := h.1 nc36
      refine lv_tableIn (tgt := 2480) hx hb dL_law_40 (by rw [nc36]; decide) (by rw [nc36]; decide) (by rw [nc36]; rfl) (by decide) ?_
      exact LW_36 hl0 C0 hT hN hX hbl hb1 hL3 t ht6 (by omega) (by omega) h hR hS hl next
    have h := h.2
    by_cases nc37 : w9 = 37
    · have h := h.1 nc37
      refine lv_tableIn (tgt := 2493) hx hb dL_law_40 (by rw [nc37]; decide) (by rw [nc37]; decide) (by rw [nc37]; rfl) (by decide) ?_
      exact LW_37 hl0 C0 hT hN hX hbl hb1 hL3 t ht6 (by omega) (by omega) h hR hS hl next
    have h := h.2
    by_cases nc38 : w9 = 38
    · have h := h.1 nc38
      refine lv_tableIn (tgt := 2549) hx hb dL_law_40 (by rw [nc38]; decide) (by rw [nc38]; decide) (by rw [nc38]; rfl) (by decide) ?_
      exact LW_38 hl0 C0 hT hN hX hbl hb1 hL3 t ht6 (by omega) (by omega) h hR hS hl next
    have h := h.2
    by_cases nc39 : w9 = 39
    · have h := h.1 nc39
      refine lv_tableIn (tgt := 2617) hx hb dL_law_40 (by rw [nc39]; decide) (by rw [nc39]; decide) (by rw [nc39]; rfl) (by decide) ?_
      exact LW_39 hl0 C0 hT hN hX hbl hb1 hL3 t ht6 (by omega) (by omega) h hR hS hl next
    have h := h.2
    by_cases nc40 : w9 = 40
    · have h := h.1 nc40
      refine lv_tableIn (tgt := 2673) hx hb dL_law_40 (by rw [nc40]; decide) (by rw [nc40]; decide) (by rw [nc40]; rfl) (by decide) ?_
      exact LW_40 hl0 C0 hT hN hX hbl hb1 hL3 t ht6 (by omega) (by omega) h hR hS hl next
    have h := h.2
    by_cases nc41 : w9 = 41
    · have h := h.1 nc41
      refine lv_tableIn (tgt := 2741) hx hb dL_law_40 (by rw [nc41]; decide) (by rw [nc41]; decide) (by rw [nc41]; rfl) (by decide) ?_
      exact LW_41 hl0 C0 hT hN hX hbl hb1 hL3 t ht6 (by omega) (by omega) h hR hS hl next
    have h := h.2
    by_cases nc42 : w9 = 42
    · have h := h.1 nc42
      refine lv_tableIn (tgt := 2809) hx hb dL_law_40 (by rw [nc42]; decide) (by rw [nc42]; decide) (by rw [nc42]; rfl) (by decide) ?_
      exact LW_42 hl0 C0 hT hN hX hbl hb1 hL3 t ht6 (by omega) (by omega) h hR hS hl next
    have h := h.2
    by_cases nc43 : w9 = 43
    · have h := h.1 nc43
      refine lv_tableIn (tgt := 2820) hx hb dL_law_40 (by rw [nc43]; decide) (by rw [nc43]; decide) (by rw [nc43]; rfl) (by decide) ?_
      exact LW_43 hl0 C0 hT hN hX hbl hb1 hL3 t ht6 (by omega) (by omega) h hR hS hl next
    have h := h.2
    by_cases nc44 : w9 = 44
    · have h := h.1 nc44
      refine lv_tableIn (tgt := 2833) hx hb dL_law_40 (by rw [nc44]; decide) (by rw [nc44]; decide) (by rw [nc44]; rfl) (by decide) ?_
      exact LW_44 hl0 C0 hT hN hX hbl hb1 hL3 t ht6 (by omega) (by omega) h hR hS hl next
    have h := h.2
    have hno : ∀ j : Nat, j < 45 → ¬ w9 = nI j := by
      intro j hj
      rcases (show j = 0 ∨ j = 1 ∨ j = 2 ∨ j = 3 ∨ j = 4 ∨ j = 5 ∨ j = 6 ∨ j = 7 ∨ j = 8 ∨ j = 9 ∨ j = 10 ∨ j = 11 ∨ j = 12 ∨ j = 13 ∨ j = 14 ∨ j = 15 ∨ j = 16 ∨ j = 17 ∨ j = 18 ∨ j = 19 ∨ j = 20 ∨ j = 21 ∨ j = 22 ∨ j = 23 ∨ j = 24 ∨ j = 25 ∨ j = 26 ∨ j = 27 ∨ j = 28 ∨ j = 29 ∨ j = 30 ∨ j = 31 ∨ j = 32 ∨ j = 33 ∨ j = 34 ∨ j = 35 ∨ j = 36 ∨ j = 37 ∨ j = 38 ∨ j = 39 ∨ j = 40 ∨ j = 41 ∨ j = 42 ∨ j = 43 ∨ j = 44 by omega) with rfl | rfl | rfl | rfl | rfl | rfl | rfl | rfl | rfl | rfl | rfl | rfl | rfl | rfl | rfl | rfl | rfl | rfl | rfl | rfl | rfl | rfl | rfl | rfl | rfl | rfl | rfl | rfl | rfl | rfl | rfl | rfl | rfl | rfl | rfl | rfl | rfl | rfl | rfl | rfl | rfl | rfl | rfl | rfl | rfl
      · exact nc0
      · exact nc1
      · exact nc2
      · exact nc3
      · exact nc4
      · exact nc5
      · exact nc6
      · exact nc7
      · exact nc8
      · exact nc9
      · exact nc10
      · exact nc11
      · exact nc12
      · exact nc13
      · exact nc14
      · exact nc15
      · exact nc16
      · exact nc17
      · exact nc18
      · exact nc19
      · exact nc20
      · exact nc21
      · exact nc22
      · exact nc23
      · exact nc24
      · exact nc25
      · exact nc26
      · exact nc27
      · exact nc28
      · exact nc29
      · exact nc30
      · exact nc31
      · exact nc32
      · exact nc33
      · exact nc34
      · exact nc35
      · exact nc36
      · exact nc37
      · exact nc38
      · exact nc39
      · exact nc40
      · exact nc41
      · exact nc42
      · exact nc43
      · exact nc44
    have hout : w9.toInt < 0 ∨ 44 < w9.toInt := by
      by_cases g1 : w9.toInt < 0
      · exact Or.inl g1
      refine Or.inr (Int.not_le.mp fun g2 => ?_)
      refine hno w9.toInt.toNat (by omega) (Int32.toInt_inj.mp ?_)
      rw [nI_toInt (by omega)]; omega
    refine lv_tableOut (tgt := 2858) hx hb dL_law_40 hout (by decide) ?_
    exact W.widen (k := c0 + 6 * t + 6) (n := s0 + 36 * t + 36) (Nat.le_add_right _ 6) (Nat.le_add_right _ 36) (next Sc Sm o H locs ls (h hno) hR hS hl)
end LOOP
