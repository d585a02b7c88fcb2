section PU40
/-! A JOB COMES: the model; CALL bring -/
def zw (w : Wd) (j i : Nat) : Wd := fun x => if 21 + 47 * j ≤ x ∧ x < 21 + 47 * j + i then 0 else w x
section CS
variable {Sc Sc' Sm S' S : sSt} {l sp n t : Nat} {w w' : Wd} {π π' : List Nat} {ns np cm nl ns' np' cm' nl' : Nat}
theorem zw_s {j i : Nat} : zw w j (i + 1) = va_up (zw w j i) (21 + 47 * j + i) 0 := by
  funext x
  by_cases c : x = 21 + 47 * j + i
  · rw [c, up_eq]; unfold zw; rw [if_pos (by omega)]
  · rw [up_ne c]; unfold zw
    by_cases d : 21 + 47 * j ≤ x ∧ x < 21 + 47 * j + i
    · rw [if_pos d, if_pos (by omega)]
    · rw [if_neg d, if_neg (by omega)]
theorem zw_out {j i x : Nat} (h : ¬ (21 + 47 * j ≤ x ∧ x < 21 + 47 * j + i)) : zw w j i x = w x := by unfold zw; rw [if_neg h]
theorem zw_in {j i x : Nat} (h : 21 + 47 * j ≤ x ∧ x < 21 + 47 * j + i) : zw w j i x = 0 := by unfold zw; rw [if_pos h]
theorem new_eq {j off : Nat} (hj : j < 24) (ho : off = 3 ∨ off = 25) {b g pr co du : Int32} : va_up (va_up (va_up (va_up (va_up (va_up (va_up (va_up (va_up (va_up (va_up (va_up (zw w j 47) (21 + 47 * j) (w 6)) (21 + 47 * j + 1) b) (21 + 47 * j + 2) (-1)) (21 + 47 * j + off) g) (21 + 47 * j + off + 1) pr) (21 + 47 * j + off + 2) co) (21 + 47 * j + off + 4) (w 3)) (21 + 47 * j + off + 5) du) (21 + 47 * j + off + 9) (-1)) (21 + 47 * j + off + 11) (-1)) (21 + 47 * j + off + 12) (-1)) 6 (w 6 + 1) = wnew w j off b g pr co du := by
  funext x
  by_cases h6 : x = 6
  · rw [h6, up_eq, wnew_6]
  rw [up_ne h6]
  by_cases hin : 21 + 47 * j ≤ x ∧ x < 68 + 47 * j
  · obtain ⟨f, hf, rfl⟩ : ∃ f, f < 47 ∧ x = 21 + 47 * j + f := ⟨x - (21 + 47 * j), by omega, by omega⟩
    rw [wnew_c hf]
    unfold nwc nwv
    by_cases a0 : f = 0
    · subst a0
      rw [if_pos rfl]
      iterate 10 rw [up_ne (by omega)]
      exact up_eq
    rw [if_neg a0]
    by_cases a1 : f = 1
    · subst a1
      rw [if_pos rfl]
      iterate 9 rw [up_ne (by omega)]
      exact up_eq
    rw [if_neg a1]
    by_cases a2 : f = 2
    · subst a2
      rw [if_pos rfl]
      iterate 8 rw [up_ne (by omega)]
      exact up_eq
    rw [if_neg a2]
    by_cases av : off ≤ f ∧ f < off + 22
    · rw [if_pos av]
      obtain ⟨y, hy, rfl⟩ : ∃ y, y < 22 ∧ f = off + y := ⟨f - off, by omega, by omega⟩
      rw [show off + y - off = y from by omega]
      by_cases b0 : y = 0
      · subst b0
        rw [if_pos rfl]
        iterate 7 rw [up_ne (by omega)]
        exact up_eq
      rw [if_neg b0]
      by_cases b1 : y = 1
      · subst b1
        rw [if_pos rfl]
        iterate 6 rw [up_ne (by omega)]
        exact up_eq
      rw [if_neg b1]
      by_cases b2 : y = 2
      · subst b2
        rw [if_pos rfl]
        iterate 5 rw [up_ne (by omega)]
        exact up_eq
      rw [if_neg b2]
      by_cases b4 : y = 4
      · subst b4
        rw [if_pos rfl]
        iterate 4 rw [up_ne (by omega)]
        exact up_eq
      rw [if_neg b4]
      by_cases b5 : y = 5
      · subst b5
        rw [if_pos rfl]
        iterate 3 rw [up_ne (by omega)]
        exact up_eq
      rw [if_neg b5]
      by_cases b9 : y = 9
      · subst b9
        rw [if_pos (by omega)]
        iterate 2 rw [up_ne (by omega)]
        exact up_eq
      by_cases b11 : y = 11
      · subst b11
        rw [if_pos (by omega), up_ne (by omega)]
        exact up_eq
      by_cases b12 : y = 12
      · subst b12
        rw [if_pos (by omega)]
        exact up_eq
      rw [if_neg (by omega)]
      iterate 11 rw [up_ne (by omega)]
      exact zw_in (by omega)
    · rw [if_neg av]
      iterate 11 rw [up_ne (by omega)]
      exact zw_in (by omega)
  · rw [wnew_out h6 hin]
    iterate 11 rw [up_ne (by omega)]
    exact zw_out (by omega)
theorem m_comes38 {off j : Nat} (hj : j < 24) (ho : off = 3 ∨ off = 25) {inn g pr co du : Int32} {k : Int32 → sSt → Prop} : B_X12_comes_38 fuel (nI off) inn g pr co du (nI j) 0 (sw S w) k ↔ k (nI j) (sw S (wnew w j off (if inn = 0 then 0 else 1) g pr co du)) := by
  suffices hh : ∀ r i m, i + r = 47 → r < m → (B_X12_comes_38 m (nI off) inn g pr co du (nI j) (nI i) (sw S (zw w j i)) k ↔ k (nI j) (sw S (wnew w j off (if inn = 0 then 0 else 1) g pr co du))) by
    have := hh 47 0 fuel (by omega) (fuel_gt (by omega))
    rw [show zw w j 0 = w from funext fun x => zw_out (by omega)] at this
    exact this
  intro r
  induction r with
  | zero =>
    intro i m hi hm
    obtain ⟨m, rfl⟩ : ∃ q, m = q + 1 := ⟨m - 1, by omega⟩
    have e : i = 47 := by omega
    subst e
    have e6 : zw w j 47 6 = w 6 := zw_out (by omega)
    have key : ∀ b : Int32, B_X12_comes_101 (nI off) g pr co du (nI j) (nI (21 + 47 * j + 1)) b (sw S (va_up (zw w j 47) (21 + 47 * j) (w 6))) k ↔ k (nI j) (sw S (wnew w j off b g pr co du)) := by
      intro b
      rw [B_X12_comes_101, ix_n (by omega) (by omega)]
      simp only [forall_eq, sw_i, m_jobAt2, m_jobAt off]
      rw [ix_n (by omega) (by omega)]
      simp only [Int32.add_zero, na_1, na_2, na_4, na_5, na_9, na_11, na_12, sw_w]
      rw [ix_n (by omega) (by omega)]
      rw [ix_n (by omega) (by omega)]
      rw [ix_n (by omega) (by omega)]
      rw [ix_n (by omega) (by omega)]
      rw [ix_n (by omega) (by omega)]
      rw [ix_n (by omega) (by omega)]
      rw [ix_n (by omega) (by omega)]
      rw [ix_n (by omega) (by omega)]
      rw [← new_eq hj ho]
      simp only [up_ne (show 3 ≠ 21 + 47 * j + off + 2 by omega), up_ne (show 3 ≠ 21 + 47 * j + off + 1 by omega), up_ne (show 3 ≠ 21 + 47 * j + off by omega), up_ne (show 3 ≠ 21 + 47 * j + 2 by omega), up_ne (show 3 ≠ 21 + 47 * j + 1 by omega), up_ne (show 3 ≠ 21 + 47 * j by omega), up_ne (show 6 ≠ 21 + 47 * j + off + 12 by omega), up_ne (show 6 ≠ 21 + 47 * j + off + 11 by omega), up_ne (show 6 ≠ 21 + 47 * j + off + 9 by omega), up_ne (show 6 ≠ 21 + 47 * j + off + 5 by omega), up_ne (show 6 ≠ 21 + 47 * j + off + 4 by omega), up_ne (show 6 ≠ 21 + 47 * j + off + 2 by omega), up_ne (show 6 ≠ 21 + 47 * j + off + 1 by omega), up_ne (show 6 ≠ 21 + 47 * j + off by omega), up_ne (show 6 ≠ 21 + 47 * j + 2 by omega), up_ne (show 6 ≠ 21 + 47 * j + 1 by omega), up_ne (show 6 ≠ 21 + 47 * j by omega), zw_out (w := w) (show ¬ (21 + 47 * j ≤ 3 ∧ 3 < 21 + 47 * j + 47) by omega), e6]
    simp only [B_X12_comes_38_s, Bb_X12_comes_38, show (47 : Int32) ≤ nI 47 from by decide, true_implies, not_true_eq_false, false_implies, and_true, m_jobAt0, m_jobAt1]
    rw [ix_n (by omega) (by omega)]
    simp only [forall_eq, sw_i, sw_w, e6, key]
    by_cases c : inn = 0 <;> simp [c]
  | succ r ih =>
    intro i m hi hm
    obtain ⟨m, rfl⟩ : ∃ q, m = q + 1 := ⟨m - 1, by omega⟩
    have h : ¬ (47 : Int32) ≤ nI i := nI_ge (b := 47) (by omega) (by omega)
    simp only [B_X12_comes_38_s, Bb_X12_comes_38, h, false_implies, true_and, not_false_eq_true, true_implies, m_jobAt i]
    rw [ix_n (by omega) (by omega)]
    simp only [forall_eq, sw_i, nI_1]
    have := ih (i + 1) m (by omega) (by omega)
    rw [zw_s] at this
    exact this
/-- the first slot in which none lies -/
theorem m_comes {off : Nat} (ho : off = 3 ∨ off = 25) {inn : Int32} {j : Nat} (hj : j < 24) (hl : lie w j = false) (hfirst : ∀ x, x < j → lie w x = true) {g pr co du : Int32} {k : Int32 → sSt → Prop} : F_X12_comes (nI off) inn g pr co du (sw S w) k ↔ k (nI j) (sw S (wnew w j off (if inn = 0 then 0 else 1) g pr co du)) := by
  rw [F_X12_comes]
  suffices hh : ∀ r i m, i + r = j → r < m → (B_X12_comes_3 m (nI off) inn g pr co du (nI i) (sw S w) k ↔ k (nI j) (sw S (wnew w j off (if inn = 0 then 0 else 1) g pr co du))) from hh j 0 fuel (by omega) (fuel_gt (by omega))
  intro r
  induction r with
  | zero =>
    intro i m hi hm
    obtain ⟨m, rfl⟩ : ∃ q, m = q + 1 := ⟨m - 1, by omega⟩
    have e : i = j := by omega
    subst e
    have h : ¬ (24 : Int32) ≤ nI i := nI_ge (b := 24) (by omega) (by omega)
    have h2 : num w i = -1 := by unfold lie at hl; simpa using hl
    have h3 : ¬ nI i = 24 := fun q => by
      rw [show (24 : Int32) = nI 24 from rfl, nI_eq (by omega) (by omega)] at q; omega
    simp only [B_X12_comes_3_s, Bb_X12_comes_3, B_X12_comes_26, h, h2, h3, false_implies, true_and, not_false_eq_true, true_implies, not_true_eq_false, and_true, m_numberOf hj, sw_w, m_comes38 hj ho]
  | succ r ih =>
    intro i m hi hm
    obtain ⟨m, rfl⟩ : ∃ q, m = q + 1 := ⟨m - 1, by omega⟩
    have h : ¬ (24 : Int32) ≤ nI i := nI_ge (b := 24) (by omega) (by omega)
    have h2 : ¬ num w i = -1 := lie_n (hfirst i (by omega))
    simp only [B_X12_comes_3_s, Bb_X12_comes_3, h, h2, false_implies, true_and, not_false_eq_true, true_implies, m_numberOf (show i < 24 by omega), sw_w, forall_eq, nI_1, ih (i + 1) m (by omega) (by omega)]
/-- there is a first slot in which none lies -/
theorem first_free (hO : zOrd w π) (hl : π.length < 24) : ∃ j, j < 24 ∧ lie w j = false ∧ ∀ x, x < j → lie w x = true := by
  have hex : ∃ j, j < 24 ∧ lie w j = false := by
    refine Classical.byContradiction fun hno => ?_
    have hall : ∀ j, j < 24 → lie w j = true := fun j hj => by
      cases c : lie w j
      · exact absurd ⟨j, hj, c⟩ hno
      · rfl
    have := hO.cnt (fun _ => true)
    rw [List.countP_true] at this
    have h2 : (List.range' 0 24).countP (fun j => lie w j && true) = (List.range' 0 24).countP (fun _ => true) := List.countP_congr fun o ho => by
      rw [List.mem_range'_1] at ho
      simp [hall o (by omega)]
    rw [h2, List.countP_true] at this
    simp at this
    omega
  obtain ⟨j, hj, hlj⟩ := hex
  induction j using Nat.strongRecOn with
  | ind j ih =>
    by_cases c : ∃ x, x < j ∧ lie w x = false
    · obtain ⟨x, x1, x2⟩ := c
      exact ih x x1 (by omega) x2
    · refine ⟨j, hj, hlj, fun x hx => ?_⟩
      cases d : lie w x
      · exact absurd ⟨x, hx, d⟩ c
      · rfl
end CS
end PU40
