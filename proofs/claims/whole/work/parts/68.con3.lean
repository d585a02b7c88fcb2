section CON
def S0c : sSt := (fun k _ j => if k = 21 ∧ j = 4 then -1 else if k = 1 ∧ j = 4 then -1 else if k = 3 ∧ j = 5 then 1 else if k = 17 then 1 else if k = 18 then (if j = 0 then 5 else if j = 1 then 1 else if j = 2 then 30 else if j = 4 then 3 else 0) else if k = 25 ∧ j = 0 then 1 else 0, fun k i j => if k = 14 then 24 * i + j else if j = 4 then 1 else 2)
theorem S0c_wf : wfC S0c := ⟨fun t j ht hj => by simp only [S0c, if_pos]; omega, by decide, by decide⟩
section G0
variable {D : va_G} {cy : Nat → ClassId} {b : Nat}
def Gc (cy : Nat → ClassId) (b : Nat) : Nat → va_E := fun x => cellC cy b S0c (kdC x) (ioC x)
theorem Gc_at {k i : Nat} (hk : k < 26) (hi : i < cntC k) : Gc cy b (adC k i) = cellC cy b S0c k i := at_C hk hi
theorem gc_9 (i : Nat) (hi : i < 432) : sh_X9 D cy b (Gc cy b) (adC 22 i) := by
  unfold sh_X9
  rw [Gc_at (by decide) hi]
  simp [cellC, cellCK, S0c]
set_option maxRecDepth 100000 in
theorem adC_j : ∀ i, i < 72 → adC 22 (6 * i) = adC 21 i + 1 ∧ adC 22 (6 * i + 1) = adC 21 i + 2 ∧ adC 23 i = adC 21 i + 3 ∧ ∀ j, j < 4 → adC 22 (6 * i + 2 + j) = adC 21 i + (4 + j) := by decide +kernel
theorem gc_1 (i : Nat) (hi : i < 72) : sh_X1 D cy b (Gc cy b) (adC 21 i) := by
  obtain ⟨f1, f2, f3, f4⟩ := adC_j i hi
  unfold sh_X1
  refine ⟨?_, ?_, ?_, ?_, ?_, ?_, ?_, ?_⟩
  · rw [Gc_at (by decide) hi, ← f1, ← f2, ← f3]
    simp [cellC, cellCK, S0c]
  · rw [← f1]; exact gc_9 _ (by omega)
  · rw [← f2]; exact gc_9 _ (by omega)
  · rw [← f4 0 (by decide)]; exact gc_9 _ (by omega)
  · rw [← f4 1 (by decide)]; exact gc_9 _ (by omega)
  · rw [← f4 2 (by decide)]; exact gc_9 _ (by omega)
  · rw [← f4 3 (by decide)]; exact gc_9 _ (by omega)
  · rw [← f3, Gc_at (by decide) hi]
    exact sameE_q fun j hj => by
      show fQ _ 1 4 j = some (b + adC 22 (6 * i + 2 + j))
      rw [f4 j hj]
      unfold fQ
      rw [if_pos hj]
      exact congrArg some (by omega)
set_option maxRecDepth 100000 in
theorem adC_q : ∀ i, i < 13 → adC 4 i = adC 3 i + 1 ∧ adC 5 i = adC 3 i + 2 ∧ adC 6 i = adC 3 i + 3 ∧ adC 7 i = adC 3 i + 4 ∧ adC 8 i = adC 3 i + 5 := by decide +kernel
theorem gc_3 (i : Nat) (hi : i < 13) : sh_X3 D cy b (Gc cy b) (adC 3 i) := by
  obtain ⟨f1, f2, f3, f4, f5⟩ := adC_q i hi
  unfold sh_X3
  refine ⟨?_, ?_, ?_, ?_, ?_, ?_⟩
  · rw [Gc_at (by decide) hi, ← f1, ← f2, ← f3, ← f4, ← f5]
    simp [cellC, cellCK, S0c]
  · rw [← f1, Gc_at (by decide) hi]; exact sameE_i fun j hj => by simp [S0c]
  · rw [← f2, Gc_at (by decide) hi]; exact sameE_i fun j hj => by simp [S0c]
  · rw [← f3, Gc_at (by decide) hi]; exact sameE_i fun j hj => by simp [S0c]
  · rw [← f4, Gc_at (by decide) hi]; exact sameE_i fun j hj => by simp [S0c]
  · rw [← f5, Gc_at (by decide) hi]; exact sameE_i fun j hj => by simp [S0c]
set_option maxRecDepth 100000 in
theorem adC_s : ∀ i, i < 12 → adC 3 (i + 1) = adC 24 i + 1 := by decide +kernel
theorem gc_5 (i : Nat) (hi : i < 12) : sh_X5 D cy b (Gc cy b) (adC 24 i) := by
  have f1 := adC_s i hi
  unfold sh_X5
  refine ⟨?_, ?_⟩
  · rw [Gc_at (by decide) hi, ← f1]
    simp [cellC, cellCK, S0c]
  · rw [← f1]; exact gc_3 _ (by omega)
theorem gc_4 (i : Nat) (hi : i < 12) : sh_X4 D cy b (Gc cy b) (adC 25 i) := by
  unfold sh_X4
  rw [Gc_at (by decide) hi]
  simp [cellC, cellCK, S0c]
set_option maxRecDepth 100000 in
theorem adC_t : ∀ t, t < 3 → adC 13 t = 232 * t + 13 ∧ adC 14 t = 232 * t + 13 + 1 ∧ adC 15 t = 232 * t + 13 + 2 ∧ adC 16 t = 232 * t + 13 + 3 ∧ adC 17 t = 232 * t + 13 + 4 ∧ adC 18 t = 232 * t + 13 + 5 ∧ adC 19 t = 232 * t + 13 + 6 ∧ adC 20 t = 232 * t + 13 + 7 ∧ (∀ k, k < 24 → adC 21 (24 * t + k) = 232 * t + 13 + (8 + 8 * k)) ∧ (∀ k, k < 4 → adC 24 (4 * t + k) = 232 * t + 13 + (200 + 7 * k)) ∧ ∀ k, k < 4 → adC 25 (4 * t + k) = 232 * t + 13 + (228 + k) := by decide +kernel
theorem gc_2 (t : Nat) (ht : t < 3) : sh_X2 D cy b (Gc cy b) (232 * t + 13 + 6) := by
  obtain ⟨-, -, -, -, -, -, f6, f7, -⟩ := adC_t t ht
  unfold sh_X2
  refine ⟨?_, ?_⟩
  · rw [show 232 * t + 13 + 6 + 1 = adC 20 t from f7.symm, ← f6, Gc_at (by decide) ht]
    simp [cellC, cellCK, S0c]
  · rw [show 232 * t + 13 + 6 + 1 = adC 20 t from f7.symm, Gc_at (by decide) ht]; exact sameE_i fun j hj => by simp [S0c]
set_option maxHeartbeats 4000000 in
theorem gc_6 (t : Nat) (ht : t < 3) : sh_X6 D cy b (Gc cy b) (232 * t + 13) := by
  obtain ⟨e0, e1, e2, e3, e4, e5, e6, e7, ej, es, ec⟩ := adC_t t ht
  unfold sh_X6
  refine ⟨?_, ?_, ?_, ?_, ?_, ?_, ?_, ?_, ?_, ?_, ?_, ?_, ?_, ?_, ?_, ?_, ?_, ?_, ?_, ?_, ?_, ?_, ?_, ?_, ?_, ?_, ?_, ?_, ?_, ?_, ?_, ?_, ?_, ?_, ?_, ?_, ?_, ?_, ?_⟩
  · rw [← e1, ← e2, ← e3, ← e4, ← e5, ← e6, ← e0, Gc_at (by decide) ht]
    simp [cellC, cellCK, S0c]
  · rw [← e4, Gc_at (by decide) ht]; exact sameE_i fun j hj => by
      rcases (show j = 0 ∨ j = 1 ∨ j = 2 ∨ j = 3 ∨ j = 4 ∨ j = 5 by omega) with rfl | rfl | rfl | rfl | rfl | rfl <;> simp [S0c, va_up]
  · rw [← e5, Gc_at (by decide) ht]; exact sameE_i fun j hj => by
      rcases (show j = 0 ∨ j = 1 ∨ j = 2 ∨ j = 3 ∨ j = 4 by omega) with rfl | rfl | rfl | rfl | rfl <;> simp [S0c, va_up]
  · exact gc_2 t ht
  · rw [show 232 * t + 13 + 8 = adC 21 (24 * t + 0) from (ej 0 (by decide)).symm]; exact gc_1 _ (by omega)
  · rw [show 232 * t + 13 + 16 = adC 21 (24 * t + 1) from (ej 1 (by decide)).symm]; exact gc_1 _ (by omega)
  · rw [show 232 * t + 13 + 24 = adC 21 (24 * t + 2) from (ej 2 (by decide)).symm]; exact gc_1 _ (by omega)
  · rw [show 232 * t + 13 + 32 = adC 21 (24 * t + 3) from (ej 3 (by decide)).symm]; exact gc_1 _ (by omega)
  · rw [show 232 * t + 13 + 40 = adC 21 (24 * t + 4) from (ej 4 (by decide)).symm]; exact gc_1 _ (by omega)
  · rw [show 232 * t + 13 + 48 = adC 21 (24 * t + 5) from (ej 5 (by decide)).symm]; exact gc_1 _ (by omega)
  · rw [show 232 * t + 13 + 56 = adC 21 (24 * t + 6) from (ej 6 (by decide)).symm]; exact gc_1 _ (by omega)
  · rw [show 232 * t + 13 + 64 = adC 21 (24 * t + 7) from (ej 7 (by decide)).symm]; exact gc_1 _ (by omega)
  · rw [show 232 * t + 13 + 72 = adC 21 (24 * t + 8) from (ej 8 (by decide)).symm]; exact gc_1 _ (by omega)
  · rw [show 232 * t + 13 + 80 = adC 21 (24 * t + 9) from (ej 9 (by decide)).symm]; exact gc_1 _ (by omega)
  · rw [show 232 * t + 13 + 88 = adC 21 (24 * t + 10) from (ej 10 (by decide)).symm]; exact gc_1 _ (by omega)
  · rw [show 232 * t + 13 + 96 = adC 21 (24 * t + 11) from (ej 11 (by decide)).symm]; exact gc_1 _ (by omega)
  · rw [show 232 * t + 13 + 104 = adC 21 (24 * t + 12) from (ej 12 (by decide)).symm]; exact gc_1 _ (by omega)
  · rw [show 232 * t + 13 + 112 = adC 21 (24 * t + 13) from (ej 13 (by decide)).symm]; exact gc_1 _ (by omega)
  · rw [show 232 * t + 13 + 120 = adC 21 (24 * t + 14) from (ej 14 (by decide)).symm]; exact gc_1 _ (by omega)
  · rw [show 232 * t + 13 + 128 = adC 21 (24 * t + 15) from (ej 15 (by decide)).symm]; exact gc_1 _ (by omega)
  · rw [show 232 * t + 13 + 136 = adC 21 (24 * t + 16) from (ej 16 (by decide)).symm]; exact gc_1 _ (by omega)
  · rw [show 232 * t + 13 + 144 = adC 21 (24 * t + 17) from (ej 17 (by decide)).symm]; exact gc_1 _ (by omega)
  · rw [show 232 * t + 13 + 152 = adC 21 (24 * t + 18) from (ej 18 (by decide)).symm]; exact gc_1 _ (by omega)
  · rw [show 232 * t + 13 + 160 = adC 21 (24 * t + 19) from (ej 19 (by decide)).symm]; exact gc_1 _ (by omega)
  · rw [show 232 * t + 13 + 168 = adC 21 (24 * t + 20) from (ej 20 (by decide)).symm]; exact gc_1 _ (by omega)
  · rw [show 232 * t + 13 + 176 = adC 21 (24 * t + 21) from (ej 21 (by decide)).symm]; exact gc_1 _ (by omega)
  · rw [show 232 * t + 13 + 184 = adC 21 (24 * t + 22) from (ej 22 (by decide)).symm]; exact gc_1 _ (by omega)
  · rw [show 232 * t + 13 + 192 = adC 21 (24 * t + 23) from (ej 23 (by decide)).symm]; exact gc_1 _ (by omega)
  · rw [show 232 * t + 13 + 200 = adC 24 (4 * t + 0) from (es 0 (by decide)).symm]; exact gc_5 _ (by omega)
  · rw [show 232 * t + 13 + 207 = adC 24 (4 * t + 1) from (es 1 (by decide)).symm]; exact gc_5 _ (by omega)
  · rw [show 232 * t + 13 + 214 = adC 24 (4 * t + 2) from (es 2 (by decide)).symm]; exact gc_5 _ (by omega)
  · rw [show 232 * t + 13 + 221 = adC 24 (4 * t + 3) from (es 3 (by decide)).symm]; exact gc_5 _ (by omega)
  · rw [show 232 * t + 13 + 228 = adC 25 (4 * t + 0) from (ec 0 (by decide)).symm]; exact gc_4 _ (by omega)
  · rw [show 232 * t + 13 + 229 = adC 25 (4 * t + 1) from (ec 1 (by decide)).symm]; exact gc_4 _ (by omega)
  · rw [show 232 * t + 13 + 230 = adC 25 (4 * t + 2) from (ec 2 (by decide)).symm]; exact gc_4 _ (by omega)
  · rw [show 232 * t + 13 + 231 = adC 25 (4 * t + 3) from (ec 3 (by decide)).symm]; exact gc_4 _ (by omega)
  · rw [← e3, Gc_at (by decide) ht]
    exact sameE_q fun j hj => by
      show fQ _ 1 4 j = some (b + adC 25 (4 * t + j))
      rw [ec j hj]
      unfold fQ
      rw [if_pos hj]
      exact congrArg some (by omega)
  · rw [← e2, Gc_at (by decide) ht]
    exact sameE_q fun j hj => by
      show fQ _ 7 4 j = some (b + adC 24 (4 * t + j))
      rw [es j hj]
      unfold fQ
      rw [if_pos hj]
      exact congrArg some (by omega)
  · rw [← e1, Gc_at (by decide) ht]
    exact sameE_q fun j hj => by
      show fQ _ 8 24 j = some (b + adC 21 (24 * t + j))
      rw [ej j hj]
      unfold fQ
      rw [if_pos hj]
      exact congrArg some (by omega)
theorem gc_11 : sh_X11 D cy b (Gc cy b) 0 := by
  unfold sh_X11
  refine ⟨?_, ?_, ?_, ?_, ?_, ?_, ?_⟩
  · have h := Gc_at (cy := cy) (b := b) (k := 0) (i := 0) (by decide) (by decide)
    rw [show (0 : Nat) = adC 0 0 from rfl, h]
    simp [cellC, cellCK, S0c, adC]
  · unfold sh_X8
    refine ⟨?_, ?_⟩
    · rw [show 0 + 1 = adC 1 0 from rfl, Gc_at (by decide) (by decide)]; simp [cellC, cellCK, S0c, adC]
    · rw [show 0 + 1 + 1 = adC 2 0 from rfl, Gc_at (by decide) (by decide)]; exact sameE_i fun j hj => by simp [S0c]
  · rw [show 0 + 3 = adC 3 0 from rfl]; exact gc_3 0 (by decide)
  · unfold sh_X0
    refine ⟨?_, ?_, ?_, ?_⟩
    · rw [show 0 + 9 = adC 9 0 from rfl, Gc_at (by decide) (by decide)]; simp [cellC, cellCK, S0c, adC]
    · rw [show 0 + 9 + 1 = adC 10 0 from rfl, Gc_at (by decide) (by decide)]; exact sameE_i fun j hj => by simp [S0c]
    · rw [show 0 + 9 + 2 = adC 11 0 from rfl, Gc_at (by decide) (by decide)]; exact sameE_i fun j hj => by simp [S0c]
    · rw [show 0 + 9 + 3 = adC 12 0 from rfl, Gc_at (by decide) (by decide)]; exact sameE_i fun j hj => by simp [S0c]
  · exact gc_6 0 (by decide)
  · exact gc_6 1 (by decide)
  · exact gc_6 2 (by decide)
end G0
end CON
