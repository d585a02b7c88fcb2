section START
theorem mT_1_98 : Cond.instantiable RX0 4 ∈ TB := tbT_1 _ (List.mem_of_getElem? (i := 98) rfl) rfl
theorem mT_1_146 : Cond.instantiable RX1 13 ∈ TB := tbT_1 _ (List.mem_of_getElem? (i := 146) rfl) rfl
theorem mT_1_130 : Cond.instantiable RX2 3 ∈ TB := tbT_1 _ (List.mem_of_getElem? (i := 130) rfl) rfl
theorem mT_1_62 : Cond.instantiable RX3 8 ∈ TB := tbT_1 _ (List.mem_of_getElem? (i := 62) rfl) rfl
theorem mT_2_79 : Cond.instantiable RX4 8 ∈ TB := tbT_2 _ (List.mem_of_getElem? (i := 79) rfl) rfl
theorem mT_2_45 : Cond.instantiable RX5 5 ∈ TB := tbT_2 _ (List.mem_of_getElem? (i := 45) rfl) rfl
theorem mT_1_118 : Cond.instantiable RX6 16 ∈ TB := tbT_1 _ (List.mem_of_getElem? (i := 118) rfl) rfl
theorem mT_1_37 : Cond.instantiable RX8 5 ∈ TB := tbT_1 _ (List.mem_of_getElem? (i := 37) rfl) rfl
theorem mT_1_152 : Cond.instantiable RX9 8 ∈ TB := tbT_1 _ (List.mem_of_getElem? (i := 152) rfl) rfl
theorem mT_1_29 : Cond.instantiable RX11 8 ∈ TB := tbT_1 _ (List.mem_of_getElem? (i := 29) rfl) rfl
theorem mT_7_69 : Cond.instantiable RX12 19 ∈ TB := tbT_7 _ (List.mem_of_getElem? (i := 69) rfl) rfl
theorem mT_1_60 : Cond.arrayClass .byte ∈ TB := tbT_1 _ (List.mem_of_getElem? (i := 60) rfl) rfl
theorem mT_1_95 : Cond.arrayClass .char ∈ TB := tbT_1 _ (List.mem_of_getElem? (i := 95) rfl) rfl
theorem mT_1_94 : Cond.arrayClass .int ∈ TB := tbT_1 _ (List.mem_of_getElem? (i := 94) rfl) rfl
theorem mT_1_96 : Cond.arrayClass .boolean ∈ TB := tbT_1 _ (List.mem_of_getElem? (i := 96) rfl) rfl
theorem mT_9_221 : Cond.arrayClass .long ∈ TB := tbT_9 _ (List.mem_of_getElem? (i := 221) rfl) rfl
def rfL : List (String × Nat × String × Nat × Nat × Nat) := [("ClaimTable$TableText", 43, "job", 0, 0, 0), ("ClaimTable$TableText", 76, "group", 1, 0, 0), ("ClaimTable$TableText", 82, "priority", 2, 0, 0), ("ClaimTable$TableText", 84, "cost", 3, 0, 0), ("ClaimTable$TableText", 86, "in", 4, 0, 0), ("ClaimTable$TableText", 55, "session", 5, 0, 0), ("ClaimTable$TableText", 110, "skew", 6, 0, 0), ("ClaimTable$TableText", 112, "slow", 7, 0, 0), ("ClaimTable$TableText", 63, "every", 8, 0, 0), ("ClaimTable$TableText", 126, "at", 9, 0, 0), ("ClaimTable$TableText", 142, "each", 10, 0, 0), ("ClaimTable$TableText", 144, "grace", 11, 0, 0), ("ClaimTable$TableText", 68, "parallel", 12, 0, 0), ("ClaimTable$TableText", 158, "lease", 13, 0, 0), ("ClaimTable$TableText", 163, "base", 14, 0, 0), ("ClaimTable$TableText", 164, "cap", 15, 0, 0), ("ClaimTable$TableText", 166, "jitter", 16, 0, 0), ("ClaimTable$TableText", 168, "limit", 17, 0, 0), ("ClaimTable$Query", 47, "claim", 18, 0, 0), ("ClaimTable$Query", 53, "where", 19, 0, 0), ("ClaimTable$Query", 100, "number", 20, 0, 0), ("ClaimTable$Query", 101, "group", 1, 1, 347), ("ClaimTable$Query", 103, "priority", 2, 1, 360), ("ClaimTable$Query", 105, "cost", 3, 1, 369), ("ClaimTable$Query", 107, "tries", 21, 0, 0), ("ClaimTable$Query", 109, "age", 22, 0, 0), ("ClaimTable$Query", 111, "late", 23, 0, 0), ("ClaimTable$Query", 113, "turn", 24, 0, 0), ("ClaimTable$Query", 87, "and", 25, 0, 0), ("ClaimTable$Query", 63, "order", 26, 0, 0), ("ClaimTable$Query", 92, "by", 27, 0, 0), ("ClaimTable$Query", 94, "desc", 28, 0, 0), ("ClaimTableModel", 159, "job", 0, 1, 439), ("ClaimTableModel", 122, "group", 1, 1, 449), ("ClaimTableModel", 128, "priority", 2, 1, 463), ("ClaimTableModel", 130, "cost", 3, 1, 473), ("ClaimTableModel", 132, "in", 4, 1, 481), ("ClaimTableModel", 165, "session", 5, 1, 493), ("ClaimTableModel", 140, "skew", 6, 1, 502), ("ClaimTableModel", 142, "slow", 7, 1, 511), ("ClaimTableModel", 170, "parallel", 12, 1, 524), ("ClaimTableModel", 175, "every", 8, 1, 534), ("ClaimTableModel", 147, "at", 9, 1, 541), ("ClaimTableModel", 149, "each", 10, 1, 550), ("ClaimTableModel", 151, "grace", 11, 1, 560), ("ClaimTableModel", 180, "lease", 13, 1, 570), ("ClaimTableModel", 182, "base", 14, 1, 579), ("ClaimTableModel", 184, "cap", 15, 1, 587), ("ClaimTableModel", 186, "jitter", 16, 1, 598), ("ClaimTableModel", 188, "limit", 17, 1, 608), ("ClaimTableModel", 233, "claim", 18, 1, 618), ("ClaimTableModel", 235, "where", 19, 1, 628), ("ClaimTableModel", 203, "number", 20, 1, 639), ("ClaimTableModel", 204, "tries", 21, 1, 649), ("ClaimTableModel", 206, "age", 22, 1, 657), ("ClaimTableModel", 208, "late", 23, 1, 666), ("ClaimTableModel", 210, "turn", 24, 1, 675), ("ClaimTableModel", 226, "and", 25, 1, 683), ("ClaimTableModel", 240, "order", 26, 1, 693), ("ClaimTableModel", 228, "by", 27, 1, 700), ("ClaimTableModel", 221, "desc", 28, 1, 709)]
set_option maxRecDepth 100000 in
theorem rfL_refs : refsTx = rfL.map (fun r => (r.1, r.2.1, r.2.2.1, r.2.2.2.1)) := by decide +kernel
set_option maxRecDepth 100000 in
theorem rfL_ok : ∀ r ∈ rfL, r.2.2.2.1 < 29 ∧ ((r.2.2.2.2.1 = 0 ∧ tmT r.2.2.2.1 = Term.string r.1 r.2.1) ∨ (r.2.2.2.2.1 = 1 ∧ flN[r.2.2.2.2.2]? = some (Cond.eq (tmT r.2.2.2.1) (Term.string r.1 r.2.1)))) := by decide +kernel
set_option maxRecDepth 100000 in
def srL_3 : List (String × Nat × String × Nat) := [("ClaimTable$TableText", 43, "job", 140), ("ClaimTable$TableText", 76, "group", 200), ("ClaimTable$TableText", 82, "priority", 214), ("ClaimTable$TableText", 84, "cost", 215), ("ClaimTable$TableText", 86, "in", 216), ("ClaimTable$TableText", 55, "session", 230), ("ClaimTable$TableText", 110, "skew", 234), ("ClaimTable$TableText", 112, "slow", 235)]
set_option maxRecDepth 100000 in
theorem srL_3_ok : ∀ r ∈ srL_3, tables_1_3[r.2.2.2]? = some (Cond.stringRef r.1 r.2.1 r.2.2.1) := by decide +kernel
def srL_4 : List (String × Nat × String × Nat) := [("ClaimTable$TableText", 63, "every", 12), ("ClaimTable$TableText", 126, "at", 16), ("ClaimTable$TableText", 142, "each", 17), ("ClaimTable$TableText", 144, "grace", 18), ("ClaimTable$TableText", 68, "parallel", 23), ("ClaimTable$TableText", 158, "lease", 30), ("ClaimTable$TableText", 163, "base", 31), ("ClaimTable$TableText", 164, "cap", 32), ("ClaimTable$TableText", 166, "jitter", 33), ("ClaimTable$TableText", 168, "limit", 34), ("ClaimTable$Query", 47, "claim", 158), ("ClaimTable$Query", 53, "where", 160), ("ClaimTable$Query", 100, "number", 169), ("ClaimTable$Query", 101, "group", 170), ("ClaimTable$Query", 103, "priority", 171), ("ClaimTable$Query", 105, "cost", 172), ("ClaimTable$Query", 107, "tries", 173), ("ClaimTable$Query", 109, "age", 174), ("ClaimTable$Query", 111, "late", 175), ("ClaimTable$Query", 113, "turn", 176), ("ClaimTable$Query", 87, "and", 183), ("ClaimTable$Query", 63, "order", 184), ("ClaimTable$Query", 92, "by", 189), ("ClaimTable$Query", 94, "desc", 190)]
set_option maxRecDepth 100000 in
theorem srL_4_ok : ∀ r ∈ srL_4, tables_1_4[r.2.2.2]? = some (Cond.stringRef r.1 r.2.1 r.2.2.1) := by decide +kernel
def srL_7 : List (String × Nat × String × Nat) := [("ClaimTableModel", 159, "job", 187), ("ClaimTableModel", 122, "group", 206), ("ClaimTableModel", 128, "priority", 215), ("ClaimTableModel", 130, "cost", 216), ("ClaimTableModel", 132, "in", 217), ("ClaimTableModel", 165, "session", 226), ("ClaimTableModel", 140, "skew", 231), ("ClaimTableModel", 142, "slow", 232), ("ClaimTableModel", 170, "parallel", 236)]
set_option maxRecDepth 100000 in
theorem srL_7_ok : ∀ r ∈ srL_7, tables_1_7[r.2.2.2]? = some (Cond.stringRef r.1 r.2.1 r.2.2.1) := by decide +kernel
def srL_8 : List (String × Nat × String × Nat) := [("ClaimTableModel", 175, "every", 5), ("ClaimTableModel", 147, "at", 10), ("ClaimTableModel", 149, "each", 11), ("ClaimTableModel", 151, "grace", 12), ("ClaimTableModel", 180, "lease", 20), ("ClaimTableModel", 182, "base", 21), ("ClaimTableModel", 184, "cap", 22), ("ClaimTableModel", 186, "jitter", 23), ("ClaimTableModel", 188, "limit", 24), ("ClaimTableModel", 233, "claim", 44), ("ClaimTableModel", 235, "where", 45), ("ClaimTableModel", 203, "number", 58), ("ClaimTableModel", 204, "tries", 59), ("ClaimTableModel", 206, "age", 60), ("ClaimTableModel", 208, "late", 61), ("ClaimTableModel", 210, "turn", 62), ("ClaimTableModel", 226, "and", 71), ("ClaimTableModel", 240, "order", 72), ("ClaimTableModel", 228, "by", 77), ("ClaimTableModel", 221, "desc", 82)]
set_option maxRecDepth 100000 in
theorem srL_8_ok : ∀ r ∈ srL_8, tables_1_8[r.2.2.2]? = some (Cond.stringRef r.1 r.2.1 r.2.2.1) := by decide +kernel
theorem tblT_3 : ∀ w ∈ tables_1_3, w ∈ lw_tbl := fun w h => List.mem_append_right _ (show w ∈ tables_1 from List.mem_append_right _ (List.mem_append_right _ (List.mem_append_left _ h)))
theorem tblT_4 : ∀ w ∈ tables_1_4, w ∈ lw_tbl := fun w h => List.mem_append_right _ (show w ∈ tables_1 from List.mem_append_right _ (List.mem_append_right _ (List.mem_append_right _ (List.mem_append_left _ h))))
theorem tblT_7 : ∀ w ∈ tables_1_7, w ∈ lw_tbl := fun w h => List.mem_append_right _ (show w ∈ tables_1 from List.mem_append_right _ (List.mem_append_right _ (List.mem_append_right _ (List.mem_append_right _ (List.mem_append_right _ (List.mem_append_right _ (List.mem_append_left _ h)))))))
theorem tblT_8 : ∀ w ∈ tables_1_8, w ∈ lw_tbl := fun w h => List.mem_append_right _ (show w ∈ tables_1 from List.mem_append_right _ (List.mem_append_right _ (List.mem_append_right _ (List.mem_append_right _ (List.mem_append_right _ (List.mem_append_right _ (List.mem_append_right _ (List.mem_append_left _ h))))))))
set_option maxRecDepth 100000 in
theorem srL_all : ∀ r ∈ rfL, (∃ q ∈ srL_3, q.1 = r.1 ∧ q.2.1 = r.2.1 ∧ q.2.2.1 = r.2.2.1) ∨ (∃ q ∈ srL_4, q.1 = r.1 ∧ q.2.1 = r.2.1 ∧ q.2.2.1 = r.2.2.1) ∨ (∃ q ∈ srL_7, q.1 = r.1 ∧ q.2.1 = r.2.1 ∧ q.2.2.1 = r.2.2.1) ∨ (∃ q ∈ srL_8, q.1 = r.1 ∧ q.2.1 = r.2.1 ∧ q.2.2.1 = r.2.2.1) := by decide +kernel
theorem start_refs {b : Nat} {s : State} {adK : Nat → Nat} (hts : ∀ w ∈ lw_tbl, w.before #[Value.ref b] s = true) (hgv : (Cond.and given_1 narrow_1).before #[Value.ref b] s = true) (hE : ∀ i : Nat, i < nTx → (tmT i).eval #[Value.ref b] s none [] s = some (.ref (adK i))) : ∀ r ∈ refsTx, vk_R r.1 r.2.1 r.2.2.1 (adK r.2.2.2) s := by
  have hs : ∀ w ∈ flN, w.before #[Value.ref b] s = true := flat_of_before _ hgv
  rw [rfL_refs]
  intro r hr
  obtain ⟨q, hq, rfl⟩ := List.mem_map.mp hr
  obtain ⟨h1, h2⟩ := rfL_ok q hq
  have hw : (Cond.stringRef q.1 q.2.1 q.2.2.1).before #[Value.ref b] s = true := by
    rcases srL_all q hq with ⟨z, hz, e1, e2, e3⟩ | ⟨z, hz, e1, e2, e3⟩ | ⟨z, hz, e1, e2, e3⟩ | ⟨z, hz, e1, e2, e3⟩
    · rw [← e1, ← e2, ← e3]; exact hts _ (tblT_3 _ (List.mem_of_getElem? (srL_3_ok z hz)))
    · rw [← e1, ← e2, ← e3]; exact hts _ (tblT_4 _ (List.mem_of_getElem? (srL_4_ok z hz)))
    · rw [← e1, ← e2, ← e3]; exact hts _ (tblT_7 _ (List.mem_of_getElem? (srL_7_ok z hz)))
    · rw [← e1, ← e2, ← e3]; exact hts _ (tblT_8 _ (List.mem_of_getElem? (srL_8_ok z hz)))
  refine vk_R.of hw ?_
  have h3 := hE _ h1
  rcases h2 with ⟨-, h2⟩ | ⟨-, h2⟩
  · rw [← h2]; exact h3
  · exact va_eqR (hs _ (List.mem_of_getElem? h2)) h3
def ncL : List ((String × String) × Nat) := [(("java/lang/IllegalArgumentException", "java/lang/IllegalStateException"), 67), (("java/lang/IllegalArgumentException", "java/lang/IndexOutOfBoundsException"), 52), (("java/lang/IllegalStateException", "java/lang/IllegalArgumentException"), 24), (("java/lang/IllegalStateException", "java/lang/IndexOutOfBoundsException"), 54), (("java/lang/IndexOutOfBoundsException", "java/lang/IllegalArgumentException"), 23), (("java/lang/UnsupportedOperationException", "java/lang/IllegalArgumentException"), 22), (("java/lang/UnsupportedOperationException", "java/lang/IndexOutOfBoundsException"), 53), (("java/util/NoSuchElementException", "java/lang/IndexOutOfBoundsException"), 55)]
set_option maxRecDepth 100000 in
theorem ncL_ok : ∀ r ∈ ncL, flN[r.2]? = some (Cond.not (.castable r.1.1 r.1.2)) := by decide +kernel
theorem ncL_all : ncPairs = ncL.map (fun r => r.1) := rfl
theorem start_N {b : Nat} {s : State} (hgv : (Cond.and given_1 narrow_1).before #[Value.ref b] s = true) : TxN s := by
  have hs : ∀ w ∈ flN, w.before #[Value.ref b] s = true := flat_of_before _ hgv
  intro q hq
  rw [ncL_all] at hq
  obtain ⟨r, hr, rfl⟩ := List.mem_map.mp hq
  exact va_Nc.of (hs _ (List.mem_of_getElem? (ncL_ok r hr)))
theorem tbU_1 : ∀ w ∈ tables_1_1, w ∈ lw_tbl := fun w h => List.mem_append_right _ (show w ∈ tables_1 from List.mem_append_left _ h)
theorem tbU_2 : ∀ w ∈ tables_1_2, w ∈ lw_tbl := fun w h => List.mem_append_right _ (show w ∈ tables_1 from List.mem_append_right _ (List.mem_append_left _ h))
theorem tbU_3 : ∀ w ∈ tables_1_3, w ∈ lw_tbl := fun w h => List.mem_append_right _ (show w ∈ tables_1 from List.mem_append_right _ (List.mem_append_right _ (List.mem_append_left _ h)))
theorem tbU_4 : ∀ w ∈ tables_1_4, w ∈ lw_tbl := fun w h => List.mem_append_right _ (show w ∈ tables_1 from List.mem_append_right _ (List.mem_append_right _ (List.mem_append_right _ (List.mem_append_left _ h))))
theorem tbU_5 : ∀ w ∈ tables_1_5, w ∈ lw_tbl := fun w h => List.mem_append_right _ (show w ∈ tables_1 from List.mem_append_right _ (List.mem_append_right _ (List.mem_append_right _ (List.mem_append_right _ (List.mem_append_left _ h)))))
theorem tbU_6 : ∀ w ∈ tables_1_6, w ∈ lw_tbl := fun w h => List.mem_append_right _ (show w ∈ tables_1 from List.mem_append_right _ (List.mem_append_right _ (List.mem_append_right _ (List.mem_append_right _ (List.mem_append_right _ (List.mem_append_left _ h))))))
theorem tbU_7 : ∀ w ∈ tables_1_7, w ∈ lw_tbl := fun w h => List.mem_append_right _ (show w ∈ tables_1 from List.mem_append_right _ (List.mem_append_right _ (List.mem_append_right _ (List.mem_append_right _ (List.mem_append_right _ (List.mem_append_right _ (List.mem_append_left _ h)))))))
theorem tbU_8 : ∀ w ∈ tables_1_8, w ∈ lw_tbl := fun w h => List.mem_append_right _ (show w ∈ tables_1 from List.mem_append_right _ (List.mem_append_right _ (List.mem_append_right _ (List.mem_append_right _ (List.mem_append_right _ (List.mem_append_right _ (List.mem_append_right _ (List.mem_append_left _ h))))))))
theorem tbU_9 : ∀ w ∈ tables_1_9, w ∈ lw_tbl := fun w h => List.mem_append_right _ (show w ∈ tables_1 from List.mem_append_right _ (List.mem_append_right _ (List.mem_append_right _ (List.mem_append_right _ (List.mem_append_right _ (List.mem_append_right _ (List.mem_append_right _ (List.mem_append_right _ (List.mem_append_left _ h)))))))))
theorem tbU_10 : ∀ w ∈ tables_1_10, w ∈ lw_tbl := fun w h => List.mem_append_right _ (show w ∈ tables_1 from List.mem_append_right _ (List.mem_append_right _ (List.mem_append_right _ (List.mem_append_right _ (List.mem_append_right _ (List.mem_append_right _ (List.mem_append_right _ (List.mem_append_right _ (List.mem_append_right _ (h))))))))))
set_option maxRecDepth 100000 in
theorem fl_4 : flN[4]? = some (Cond.eq (.static "java/lang/String" "COMPACT_STRINGS" "Z") (.int 1)) ∧ flN[5]? = some (Cond.isRef (.static "jdk/internal/util/Preconditions" "SIOOBE_FORMATTER" "Ljava/util/function/BiFunction;")) ∧ flN[9]? = some (Cond.isRef (.static Bundle.tN "UNASSIGNED_STACK" Bundle.steD)) ∧ flN[10]? = some (Cond.isRef (.static Bundle.tN "SUPPRESSED_SENTINEL" Bundle.listD)) := by decide +kernel
theorem start_X {b : Nat} {s : State} (hts : ∀ w ∈ lw_tbl, w.before #[Value.ref b] s = true) (hgv : (Cond.and given_1 narrow_1).before #[Value.ref b] s = true) : ∃ tx : TX, tx.1 = s.heap.size ∧ TxW tx s s.heap ∧ TxR tx s := by
  have hs : ∀ w ∈ flN, w.before #[Value.ref b] s = true := flat_of_before _ hgv
  have hA : ∀ a : Nat, a < s.heap.size → ¬ (fun q => s.heap.size ≤ q) a := fun a h h2 => by have h2 : s.heap.size ≤ a := h2; omega
  obtain ⟨adK, adV, hS, hE⟩ := start_texts hgv
  refine ⟨(s.heap.size, adK, adV), rfl, ⟨hS, ?_, ?_, ?_, ?_⟩, start_refs hts hgv hE, fun w hw => va_Nw.of (nb_tab (nb_is hw)) (hts w (List.mem_filter.mp hw).1)⟩
  · exact va_Zof (hts _ (tbU_3 _ (List.mem_of_getElem? (i := 154) rfl))) (hts _ (tbU_1 _ (List.mem_of_getElem? (i := 14) rfl))) (va_eqt (hs _ (List.mem_of_getElem? fl_4.1))) hA
  · exact va_Zqof (hts _ (tbU_3 _ (List.mem_of_getElem? (i := 174) rfl))) (hts _ (tbU_1 _ (List.mem_of_getElem? (i := 16) rfl))) (hs _ (List.mem_of_getElem? fl_4.2.1)) hA
  · exact vx_Zqof (hts _ (tbU_4 _ (List.mem_of_getElem? (i := 72) rfl))) (hts _ (tbU_1 _ (List.mem_of_getElem? (i := 18) rfl))) (hs _ (List.mem_of_getElem? fl_4.2.2.1)) hA
  · exact vx_Zqof (hts _ (tbU_4 _ (List.mem_of_getElem? (i := 74) rfl))) (hts _ (tbU_1 _ (List.mem_of_getElem? (i := 18) rfl))) (hs _ (List.mem_of_getElem? fl_4.2.2.2)) hA
theorem start_A {args : Array Value} {s : State} {t : FieldType} (h : (Cond.arrayClass t).before args s = true) : ∃ cA : ClassId, ArrOfT s cA t ∧ s.vm.findClass ("[" ++ t.toString) = some cA := by
  obtain ⟨c, k, comp, h1, h2, h3⟩ := Cond.arrayClass_spec (args := args) (first := s) (o := none) (s := s) (idx := []) h
  exact ⟨c, fun n z => ⟨(fun k h => by cases h), k, h2, comp, h3⟩, h1⟩
theorem start_O {args : Array Value} {s : State} {n : String} (h : (Cond.arrayOver (.object n)).before args s = true) : ∃ cA : ClassId, ArrOfT s cA (.object n) ∧ va_RA s cA (.object n) := by
  obtain ⟨comp, c, k, h1, -, h3, h4, h5⟩ := Cond.arrayOver_spec (args := args) (first := s) (o := none) (s := s) (idx := []) h
  exact ⟨c, fun n z => ⟨(fun k h => by cases h), k, h3, comp, h4⟩, k, comp, h3, h4, h1, h5⟩
theorem start_K {b : Nat} {s : State} (hts : ∀ w ∈ lw_tbl, w.before #[Value.ref b] s = true) : ∃ (D : va_G) (cy : Nat → ClassId), va_K D vwCl (tysG cy) s ∧ va_K D vwCl [(cy 8, .long)] s ∧ AO s := by
  obtain ⟨c0, i0, k0⟩ := u_known (C := RX0) (T := TX0) (N := 4) (n := 4) hts (fun w h => TB_in _ (tbs_wsX00 w h)) (hts _ (TB_in _ mT_1_98))
  obtain ⟨c1, i1, k1⟩ := u_known (C := RX1) (T := TX1) (N := 13) (n := 13) hts (fun w h => TB_in _ (tbs_wsX10 w h)) (hts _ (TB_in _ mT_1_146))
  obtain ⟨c2, i2, k2⟩ := u_known (C := RX2) (T := TX2) (N := 3) (n := 3) hts (fun w h => TB_in _ (tbs_wsX20 w h)) (hts _ (TB_in _ mT_1_130))
  obtain ⟨c3, i3, k3⟩ := u_known (C := RX3) (T := TX3) (N := 8) (n := 8) hts (fun w h => TB_in _ (tbs_wsX30 w h)) (hts _ (TB_in _ mT_1_62))
  obtain ⟨c4, i4, k4⟩ := u_known (C := RX4) (T := TX4) (N := 8) (n := 8) hts (fun w h => TB_in _ (tbs_wsX40 w h)) (hts _ (TB_in _ mT_2_79))
  obtain ⟨c5, i5, k5⟩ := u_known (C := RX5) (T := TX5) (N := 5) (n := 5) hts (fun w h => TB_in _ (tbs_wsX50 w h)) (hts _ (TB_in _ mT_2_45))
  obtain ⟨c6, i6, k6⟩ := u_known (C := RX6) (T := TX6) (N := 16) (n := 16) hts (fun w h => TB_in _ (tbs_wsX60 w h)) (hts _ (TB_in _ mT_1_118))
  obtain ⟨c7, i7, k7⟩ := u_known (C := RX8) (T := TX8) (N := 5) (n := 5) hts (fun w h => TB_in _ (tbs_wsX80 w h)) (hts _ (TB_in _ mT_1_37))
  obtain ⟨c8, i8, k8⟩ := u_known (C := RX9) (T := TX9) (N := 8) (n := 8) hts (fun w h => TB_in _ (tbs_wsX90 w h)) (hts _ (TB_in _ mT_1_152))
  obtain ⟨c9, i9, k9⟩ := u_known (C := RX11) (T := TX11) (N := 8) (n := 8) hts (fun w h => TB_in _ (tbs_wsX110 w h)) (hts _ (TB_in _ mT_1_29))
  obtain ⟨c10, i10, k10⟩ := u_known (C := RX12) (T := TX12) (N := 19) (n := 19) hts (fun w h => TB_in _ (tbs_wsX120 w h)) (hts _ (TB_in _ mT_7_69))
  obtain ⟨y0, a0, f0⟩ := start_A (hts _ (TB_in _ mT_1_60))
  obtain ⟨y1, a1, f1⟩ := start_A (hts _ (TB_in _ mT_1_95))
  obtain ⟨y2, a2, f2⟩ := start_A (hts _ (TB_in _ mT_1_94))
  obtain ⟨y3, a3, f3⟩ := start_A (hts _ (TB_in _ mT_1_96))
  have o4 : (Cond.arrayOver (.object "ClaimTable$Job")).before #[Value.ref b] s = true := (hts _ (tbU_1 _ (List.mem_of_getElem? (i := 124) rfl)))
  obtain ⟨y4, a4, f4⟩ := start_O o4
  have o5 : (Cond.arrayOver (.object "ClaimTable$Schedule")).before #[Value.ref b] s = true := (hts _ (tbU_1 _ (List.mem_of_getElem? (i := 128) rfl)))
  obtain ⟨y5, a5, f5⟩ := start_O o5
  have o6 : (Cond.arrayOver (.object "ClaimTable$Session")).before #[Value.ref b] s = true := (hts _ (tbU_1 _ (List.mem_of_getElem? (i := 126) rfl)))
  obtain ⟨y6, a6, f6⟩ := start_O o6
  have o7 : (Cond.arrayOver (.object "ClaimTable$Version")).before #[Value.ref b] s = true := (hts _ (tbU_1 _ (List.mem_of_getElem? (i := 209) rfl)))
  obtain ⟨y7, a7, f7⟩ := start_O o7
  obtain ⟨y8, a8, f8⟩ := start_A (hts _ (TB_in _ mT_9_221))
  have hKc : ∀ (k : Nat) (q : vw_C), vwCl[k]? = some q → u_Kn s q.1 q.2.1 q.2.2 (([c0, c1, c2, c3, c4, c5, c6, c7, c8, c9, c10] : List ClassId).getD k c0) (([i0, i1, i2, i3, i4, i5, i6, i7, i8, i9, i10] : List (Nat → Nat)).getD k i0) := by
    intro k q hq
    match k, hq with
    | 0, hq => cases hq; exact k0
    | 1, hq => cases hq; exact k1
    | 2, hq => cases hq; exact k2
    | 3, hq => cases hq; exact k3
    | 4, hq => cases hq; exact k4
    | 5, hq => cases hq; exact k5
    | 6, hq => cases hq; exact k6
    | 7, hq => cases hq; exact k7
    | 8, hq => cases hq; exact k8
    | 9, hq => cases hq; exact k9
    | 10, hq => cases hq; exact k10
    | k + 11, hq => simp [vwCl] at hq
  refine ⟨(fun k => ([c0, c1, c2, c3, c4, c5, c6, c7, c8, c9, c10] : List ClassId).getD k c0, fun k => ([i0, i1, i2, i3, i4, i5, i6, i7, i8, i9, i10] : List (Nat → Nat)).getD k i0), fun k => ([y0, y1, y2, y3, y4, y5, y6, y7, y8] : List ClassId).getD k y0, ⟨hKc, fun k q hq => ?_⟩, ⟨hKc, fun k q hq => ?_⟩, va_AO.of o4, va_AO.of o5, va_AO.of o6, va_AO.of o7⟩
  · match k, hq with
    | 0, hq => cases hq; exact ⟨a0, f0⟩
    | 1, hq => cases hq; exact ⟨a1, f1⟩
    | 2, hq => cases hq; exact ⟨a2, f2⟩
    | 3, hq => cases hq; exact ⟨a3, f3⟩
    | 4, hq => cases hq; exact ⟨a4, f4⟩
    | 5, hq => cases hq; exact ⟨a5, f5⟩
    | 6, hq => cases hq; exact ⟨a6, f6⟩
    | 7, hq => cases hq; exact ⟨a7, f7⟩
    | k + 8, hq => simp [tysG] at hq
  · match k, hq with
    | 0, hq => cases hq; exact ⟨a8, f8⟩
    | k + 1, hq => simp at hq
end START
