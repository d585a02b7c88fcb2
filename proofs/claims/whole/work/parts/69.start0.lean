section START
def tmR : List (String × Nat) := [("ClaimTable$TableText", 43), ("ClaimTable$TableText", 76), ("ClaimTable$TableText", 82), ("ClaimTable$TableText", 84), ("ClaimTable$TableText", 86), ("ClaimTable$TableText", 55), ("ClaimTable$TableText", 110), ("ClaimTable$TableText", 112), ("ClaimTable$TableText", 63), ("ClaimTable$TableText", 126), ("ClaimTable$TableText", 142), ("ClaimTable$TableText", 144), ("ClaimTable$TableText", 68), ("ClaimTable$TableText", 158), ("ClaimTable$TableText", 163), ("ClaimTable$TableText", 164), ("ClaimTable$TableText", 166), ("ClaimTable$TableText", 168), ("ClaimTable$Query", 47), ("ClaimTable$Query", 53), ("ClaimTable$Query", 100), ("ClaimTable$Query", 107), ("ClaimTable$Query", 109), ("ClaimTable$Query", 111), ("ClaimTable$Query", 113), ("ClaimTable$Query", 87), ("ClaimTable$Query", 63), ("ClaimTable$Query", 92), ("ClaimTable$Query", 94)]
def tmT (i : Nat) : Term := Term.string (tmR.getD i ("", 0)).1 (tmR.getD i ("", 0)).2
def tmV (i : Nat) : Term := .field (tmT i) "java/lang/String" "value" "[B"
def flN : List Cond := flatC (Cond.and given_1 narrow_1)
def ps_ex : List Nat := [154, 161, 170, 182, 190, 196, 207, 215, 223, 232, 238, 246, 255, 267, 276, 284, 291, 301, 310, 319, 328, 370, 379, 386, 394, 402, 409, 418, 424]
set_option maxRecDepth 100000 in
theorem fl_ex : ∀ i, i < 29 → flN[ps_ex.getD i 0]? = some (Cond.exactly (tmT i) "java/lang/String") := by decide +kernel
def ps_co : List Nat := [155, 162, 171, 183, 191, 197, 208, 216, 224, 233, 239, 247, 256, 268, 277, 285, 292, 302, 311, 320, 329, 371, 380, 387, 395, 403, 410, 419, 425]
set_option maxRecDepth 100000 in
theorem fl_co : ∀ i, i < 29 → flN[ps_co.getD i 0]? = some (Cond.eq (.field (tmT i) "java/lang/String" "coder" "B") (.int 0)) := by decide +kernel
def ps_ar : List Nat := [156, 163, 172, 184, 192, 198, 209, 217, 225, 234, 240, 248, 257, 269, 278, 286, 293, 303, 312, 321, 330, 372, 381, 388, 396, 404, 411, 420, 426]
set_option maxRecDepth 100000 in
theorem fl_ar : ∀ i, i < 29 → flN[ps_ar.getD i 0]? = some (Cond.arrayOf (tmV i) .byte) := by decide +kernel
def ps_le : List Nat := [157, 164, 173, 185, 193, 199, 210, 218, 226, 235, 241, 249, 258, 270, 279, 287, 294, 304, 313, 322, 331, 373, 382, 389, 397, 405, 412, 421, 427]
set_option maxRecDepth 100000 in
theorem fl_le : ∀ i, i < 29 → flN[ps_le.getD i 0]? = some (Cond.eq (.length (tmV i)) (.int (Int32.ofNat (lenTx.getD i 0)))) := by decide +kernel
def ps_el : List (List Nat) := [[158, 159, 160], [165, 166, 167, 168, 169], [174, 175, 176, 177, 178, 179, 180, 181], [186, 187, 188, 189], [194, 195], [200, 201, 202, 203, 204, 205, 206], [211, 212, 213, 214], [219, 220, 221, 222], [227, 228, 229, 230, 231], [236, 237], [242, 243, 244, 245], [250, 251, 252, 253, 254], [259, 260, 261, 262, 263, 264, 265, 266], [271, 272, 273, 274, 275], [280, 281, 282, 283], [288, 289, 290], [295, 296, 297, 298, 299, 300], [305, 306, 307, 308, 309], [314, 315, 316, 317, 318], [323, 324, 325, 326, 327], [332, 333, 334, 335, 336, 337], [374, 375, 376, 377, 378], [383, 384, 385], [390, 391, 392, 393], [398, 399, 400, 401], [406, 407, 408], [413, 414, 415, 416, 417], [422, 423], [428, 429, 430, 431]]
set_option maxRecDepth 100000 in
theorem fl_el : ∀ i, i < 29 → ∀ j, j < lenTx.getD i 0 → flN[(ps_el.getD i []).getD j 0]? = some (Cond.eq (.elem (tmV i) (.int (Int32.ofNat j))) (.int ((bytTx.getD i []).getD j 0))) := by decide +kernel
theorem tx_apart : ∀ i, i < 29 → ∀ j, j < 29 → i ≠ j → (¬ Int32.ofNat (lenTx.getD i 0) = Int32.ofNat (lenTx.getD j 0)) ∨ ∃ k, k < 9 ∧ k < lenTx.getD i 0 ∧ k < lenTx.getD j 0 ∧ ¬ (bytTx.getD i []).getD k 0 = (bytTx.getD j []).getD k 0 := by decide +kernel
theorem lenTx_lt : ∀ i, i < 29 → lenTx.getD i 0 < 2 ^ 31 := by decide +kernel
theorem start_texts {b : Nat} {s : State} (hgv : (Cond.and given_1 narrow_1).before #[Value.ref b] s = true) : ∃ adK adV : Nat → Nat, vk_S nTx lenTx bytTx adK adV (fun q => s.heap.size ≤ q) s s.heap ∧ ∀ i : Nat, i < nTx → (tmT i).eval #[Value.ref b] s none [] s = some (.ref (adK i)) := by
  have hs : ∀ w ∈ flN, w.before #[Value.ref b] s = true := flat_of_before _ hgv
  have hA : ∀ a : Nat, a < s.heap.size → ¬ (fun q => s.heap.size ≤ q) a := fun a h h2 => by have h2 : s.heap.size ≤ a := h2; omega
  have h0 : ∀ i : Nat, ∃ q : Nat × Nat, i < nTx → (tmT i).eval #[Value.ref b] s none [] s = some (.ref q.1) ∧ va_O "java/lang/String" q.1 (fun q => s.heap.size ≤ q) s s.heap ∧ va_OF "java/lang/String" "coder" "B" (.int 0) q.1 (fun q => s.heap.size ≤ q) s s.heap ∧ va_OF "java/lang/String" "value" "[B" (.ref q.2) q.1 (fun q => s.heap.size ≤ q) s s.heap ∧ va_T .byte q.2 (lenTx.getD i 0) (fun j => .int ((bytTx.getD i []).getD j 0)) (fun q => s.heap.size ≤ q) s s.heap := by
    intro i
    by_cases hi : i < nTx
    · obtain ⟨aK, aV, hS, hT⟩ := vk_Sof (args := #[Value.ref b]) (s := s) (N := 1) (tm := fun _ => tmT i) (len := [lenTx.getD i 0]) (byt := [bytTx.getD i []]) (A := fun q => s.heap.size ≤ q) (fun j hj => by rw [show j = 0 by omega]; exact lenTx_lt i hi) (fun _ _ => hs _ (List.mem_of_getElem? (fl_ex i hi))) (fun _ _ => hs _ (List.mem_of_getElem? (fl_co i hi))) (fun _ _ => hs _ (List.mem_of_getElem? (fl_ar i hi))) (fun j hj => by rw [show j = 0 by omega]; exact hs _ (List.mem_of_getElem? (fl_le i hi))) (fun j hj k hk => by
        have e : j = 0 := by omega
        subst e
        exact hs _ (List.mem_of_getElem? (fl_el i hi k hk))) (fun i j hi hj h => absurd (show i = j by omega) h) hA
      exact ⟨(aK 0, aV 0), fun _ => ⟨hT 0 (by decide), hS.1 0 (by decide)⟩⟩
    · exact ⟨(0, 0), fun h => absurd h hi⟩
  obtain ⟨ad, had⟩ := Classical.axiomOfChoice h0
  refine ⟨fun i => (ad i).1, fun i => (ad i).2, ⟨fun i hi => (had i hi).2, fun i j hi hj e => ?_⟩, fun i hi => (had i hi).1⟩
  refine Classical.byContradiction fun hij => ?_
  obtain ⟨-, -, -, ⟨cf, k, fi, f, cell, a1, -, a3, -, a5, -⟩, cell2, b1, -, -, -, b5, b6, -⟩ := had i hi
  obtain ⟨-, -, -, ⟨cf', k', fi', f', cell', a1', -, a3', -, a5', -⟩, cell2', b1', -, -, -, b5', b6', -⟩ := had j hj
  have e : (ad i).1 = (ad j).1 := e
  have ef := a1.symm.trans a1'
  simp only [Option.some.injEq, Prod.mk.injEq] at ef
  obtain ⟨-, -, -, rfl⟩ := ef
  rw [e] at a3
  cases a3.symm.trans a3'
  have ev : (ad i).2 = (ad j).2 := by
    have h := a5.symm.trans a5'
    simpa using h
  rw [ev] at b1
  cases b1.symm.trans b1'
  rcases tx_apart i hi j hj hij with h | ⟨q, -, h1, h2, h3⟩
  · exact h (b5.symm.trans b5')
  · have h := (b6 q h1).symm.trans (b6' q h2)
    simp only [Option.some.injEq, Value.int.injEq] at h
    exact h3 h
end START
