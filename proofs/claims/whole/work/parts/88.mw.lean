section PU8
/-! THE MODEL'S WRITES: what becomes of the world -/
def sw (S : sSt) (w : Wd) : sSt := uA S 1 0 w
theorem sw_w {S : sSt} {w : Wd} : (sw S w).1 1 0 = w := uA_row S 1 0 w
theorem sw_o {S : sSt} {w : Wd} {k i : Nat} (h : ¬ (k = 1 ∧ i = 0)) : (sw S w).1 k i = S.1 k i := uA_other h
theorem sw_2 {S : sSt} {w : Wd} : (sw S w).2 = S.2 := rfl
theorem sw_s {S : sSt} : sw S (S.1 1 0) = S := by
  unfold sw uA
  refine Prod.ext (funext fun k => funext fun i => funext fun j => ?_) rfl
  by_cases h : k = 1 ∧ i = 0
  · simp [h]
  · simp [h]
theorem sw_sw {S : sSt} {w w' : Wd} : sw (sw S w) w' = sw S w' := by
  unfold sw uA
  refine Prod.ext (funext fun k => funext fun i => funext fun j => ?_) rfl
  by_cases h : k = 1 ∧ i = 0 <;> simp [h]
theorem sw_i {S : sSt} {w : Wd} {j : Nat} {v : Int32} : uI (sw S w) 1 0 j v = sw S (va_up w j v) := by
  unfold sw uA uI va_up
  refine Prod.ext (funext fun k => funext fun i => funext fun x => ?_) rfl
  by_cases h : k = 1 ∧ i = 0
  · obtain ⟨rfl, rfl⟩ := h
    by_cases h2 : x = j <;> simp [h2]
  · by_cases h3 : k = 1 ∧ i = 0 ∧ x = j
    · exact absurd ⟨h3.1, h3.2.1⟩ h
    · simp [h, h3]
theorem sw_i0 {S : sSt} {j : Nat} {v : Int32} : uI S 1 0 j v = sw S (va_up (S.1 1 0) j v) := by
  have h : uI (sw S (S.1 1 0)) 1 0 j v = sw S (va_up (S.1 1 0) j v) := sw_i
  rw [sw_s] at h; exact h
theorem up_ne {w : Wd} {k j : Nat} {v : Int32} (h : j ≠ k) : va_up w k v j = w j := va_up_ne w v h
theorem up_eq {w : Wd} {k : Nat} {v : Int32} : va_up w k v k = v := va_up_self w k v
theorem cp_in {w : Wd} {a b n k : Nat} (h : b ≤ k) (h2 : k < b + n) : va_cpy w w a b n k = w (a + (k - b)) := by unfold va_cpy; rw [if_pos ⟨h, h2⟩]
theorem cp_out {w : Wd} {a b n k : Nat} (h : k < b ∨ b + n ≤ k) : va_cpy w w a b n k = w k := by unfold va_cpy; rw [if_neg (by omega)]
section MW
variable {S : sSt} {w : Wd} {j : Nat}
theorem m_copies {a b n : Nat} (hd : a + n ≤ b ∨ b + n ≤ a) (ha : a + n ≤ 10421) (hb : b + n ≤ 10421) {k : sSt → Prop} : F_X12_copies (nI a) (nI b) (nI n) (sw S w) k ↔ k (sw S (va_cpy w w a b n)) := by
  rw [F_X12_copies]
  suffices h : ∀ r i m, i + r = n → r < m → (B_X12_copies_3 m (nI a) (nI b) (nI n) (nI i) (sw S (va_cpy w w a b i)) k ↔ k (sw S (va_cpy w w a b n))) by
    have := h n 0 fuel (by omega) (fuel_gt (by omega))
    rw [show va_cpy w w a b 0 = w from funext fun k => cp_out (by omega)] at this
    exact this
  intro r
  induction r with
  | zero =>
    intro i m hi hm
    obtain ⟨m, rfl⟩ : ∃ q, m = q + 1 := ⟨m - 1, by omega⟩
    have : i = n := by omega
    subst this
    simp only [B_X12_copies_3_s, Bb_X12_copies_3]
    simp [nI_leI (show i < 2147483648 by omega) (show i < 2147483648 by omega)]
  | succ r ih =>
    intro i m hi hm
    obtain ⟨m, rfl⟩ : ∃ q, m = q + 1 := ⟨m - 1, by omega⟩
    have h : ¬ nI n ≤ nI i := nI_ge (by omega) (by omega)
    simp only [B_X12_copies_3_s, Bb_X12_copies_3, h, false_implies, true_and, not_false_eq_true, true_implies, nI_add]
    rw [ix_n (by omega) (by omega), ix_n (by omega) (by omega)]
    simp only [forall_eq, nI_1, sw_i, sw_w]
    have e : va_up (va_cpy w w a b i) (b + i) (va_cpy w w a b i (a + i)) = va_cpy w w a b (i + 1) := by
      funext x
      by_cases c : x = b + i
      · rw [c, up_eq, cp_out (by omega), cp_in (by omega) (by omega)]
        congr 1; omega
      · rw [up_ne c]
        by_cases c2 : b ≤ x ∧ x < b + i
        · rw [cp_in c2.1 c2.2, cp_in c2.1 (by omega)]
        · rw [cp_out (by omega), cp_out (by omega)]
    rw [e]
    exact ih (i + 1) m (by omega) (by omega)
theorem m_copies22 {a b : Nat} (hd : a + 22 ≤ b ∨ b + 22 ≤ a) (ha : a + 22 ≤ 10421) (hb : b + 22 ≤ 10421) {k : sSt → Prop} : F_X12_copies (nI a) (nI b) 22 (sw S w) k ↔ k (sw S (va_cpy w w a b 22)) := m_copies hd ha hb
/-- a job is locked -/
def wlk (w : Wd) (j : Nat) (s : Int32) : Wd := va_up (if lkr w j = s then w else va_cpy w w (21 + 47 * j + 3) (21 + 47 * j + 25) 22) (21 + 47 * j + 2) s
theorem m_locks (hj : j < 24) {s : Int32} {k : Int32 → sSt → Prop} : F_X12_locks (nI j) s (sw S w) k ↔ k (nI (21 + 47 * j + 25)) (sw S (wlk w j s)) := by
  rw [F_X12_locks]
  simp only [B_X12_locks_26, m_lockerOf hj, sw_w, m_jobAt2, m_jobAt3, m_jobAt25, forall_eq, sw_i]
  rw [m_copies22 (by omega) (by omega) (by omega)]
  simp only [ix_n (show 21 + 47 * j + 2 < 10421 by omega) (show 10421 ≤ 2147483648 by omega), sw_i, cdi]
  unfold wlk
  by_cases c : lkr w j = s <;> simp [c]
/-- a job is locked no more -/
def wfr (w : Wd) (j : Nat) : Wd := if isin w j then va_up w (21 + 47 * j + 2) (-1) else va_up (va_up w (21 + 47 * j + 2) (-1)) (21 + 47 * j) (-1)
theorem m_frees (hj : j < 24) {k : sSt → Prop} : F_X12_frees (nI j) (sw S w) k ↔ k (sw S (wfr w j)) := by
  rw [F_X12_frees, m_jobAt2, ix_n (by omega) (by omega)]
  simp only [forall_eq, sw_i, m_isIn hj, sw_w, m_jobAt0, b2i_0, Bool.not_eq_false]
  rw [ix_n (by omega) (by omega)]
  have e : isin (va_up w (21 + 47 * j + 2) (-1)) j = isin w j := by
    unfold isin num
    rw [up_ne (by omega), up_ne (by omega)]
  rw [e]
  unfold wfr
  cases isin w j <;> simp
/-- a row of the log -/
def wsh (w : Wd) : Wd := fun x => if 1294 ≤ x ∧ x < 1589 then w (x - 5) else w x
def wrow (w : Wd) (j : Nat) : Wd := va_up (va_up (va_up (va_up (va_up w 1289 (w 3)) 1290 (num w j)) 1291 (w (21 + 47 * j + 3 + 3))) 1292 (w (21 + 47 * j + 3 + 8))) 1293 (w (21 + 47 * j + 3 + 9))
def wtl (w : Wd) (j : Nat) : Wd := va_up (wrow (wsh w) j) 14 (if w 14 + 1 < 60 then w 14 + 1 else 60)
theorem m_isTold (hj : j < 24) {k : sSt → Prop} : F_X12_isTold (nI j) (sw S w) k ↔ k (sw S (wtl w j)) := by
  rw [F_X12_isTold]
  suffices h : ∀ r m, 5 + r ≤ 300 → r < m → (B_X12_isTold_4 m (nI j) (nI (5 + r) - 1) (sw S (fun x => if 1289 + 5 + r ≤ x ∧ x < 1589 then w (x - 5) else w x)) k ↔ k (sw S (wtl w j))) by
    have := h 295 fuel (by omega) (fuel_gt (by omega))
    rw [show (fun x => if 1289 + 5 + 295 ≤ x ∧ x < 1589 then w (x - 5) else w x) = w from funext fun x => if_neg (by omega), show nI (5 + 295) - 1 = (299 : Int32) from by decide] at this
    exact this
  intro r
  induction r with
  | zero =>
    intro m hr hm
    obtain ⟨m, rfl⟩ : ∃ q, m = q + 1 := ⟨m - 1, by omega⟩
    have e : (fun x => if 1289 + 5 + 0 ≤ x ∧ x < 1589 then w (x - 5) else w x) = wsh w := by
      funext x; unfold wsh; simp only [Nat.add_zero, Nat.reduceAdd]
    rw [e]
    simp only [B_X12_isTold_4_s, Bb_X12_isTold_4, show (nI (5 + 0) - 1 < 5) from by decide, true_implies, not_true_eq_false, false_implies, and_true, m_jobAt3, forall_eq, sw_i, sw_w, m_numberOf hj, na_3, na_8, na_9]
    simp only [ix_n (show 21 + 47 * j + 3 + 3 < 10421 by omega) (show 10421 ≤ 2147483648 by omega), ix_n (show 21 + 47 * j + 3 + 8 < 10421 by omega) (show 10421 ≤ 2147483648 by omega), ix_n (show 21 + 47 * j + 3 + 9 < 10421 by omega) (show 10421 ≤ 2147483648 by omega), forall_eq, sw_i, sw_w]
    have s3 : wsh w 3 = w 3 := if_neg (by omega)
    have s14 : wsh w 14 = w 14 := if_neg (by omega)
    have hn : num (va_up (wsh w) 1289 (wsh w 3)) j = num (wsh w) j := by unfold num; rw [up_ne (by omega)]
    have e2 : va_up (va_up (va_up (va_up (va_up (va_up (wsh w) 1289 (wsh w 3)) 1290 (num (va_up (wsh w) 1289 (wsh w 3)) j)) 1291 (va_up (va_up (wsh w) 1289 (wsh w 3)) 1290 (num (va_up (wsh w) 1289 (wsh w 3)) j) (21 + 47 * j + 3 + 3))) 1292 (va_up (va_up (va_up (wsh w) 1289 (wsh w 3)) 1290 (num (va_up (wsh w) 1289 (wsh w 3)) j)) 1291 (va_up (va_up (wsh w) 1289 (wsh w 3)) 1290 (num (va_up (wsh w) 1289 (wsh w 3)) j) (21 + 47 * j + 3 + 3)) (21 + 47 * j + 3 + 8))) 1293 (va_up (va_up (va_up (va_up (wsh w) 1289 (wsh w 3)) 1290 (num (va_up (wsh w) 1289 (wsh w 3)) j)) 1291 (va_up (va_up (wsh w) 1289 (wsh w 3)) 1290 (num (va_up (wsh w) 1289 (wsh w 3)) j) (21 + 47 * j + 3 + 3))) 1292 (va_up (va_up (va_up (wsh w) 1289 (wsh w 3)) 1290 (num (va_up (wsh w) 1289 (wsh w 3)) j)) 1291 (va_up (va_up (wsh w) 1289 (wsh w 3)) 1290 (num (va_up (wsh w) 1289 (wsh w 3)) j) (21 + 47 * j + 3 + 3)) (21 + 47 * j + 3 + 8)) (21 + 47 * j + 3 + 9))) 14 (if w 14 + 1 < 60 then w 14 + 1 else 60) = wtl w j := by
      rw [hn]
      unfold wtl wrow
      simp only [up_ne (show 21 + 47 * j + 3 + 3 ≠ 1290 by omega), up_ne (show 21 + 47 * j + 3 + 3 ≠ 1289 by omega), up_ne (show 21 + 47 * j + 3 + 8 ≠ 1289 by omega), up_ne (show 21 + 47 * j + 3 + 8 ≠ 1290 by omega), up_ne (show 21 + 47 * j + 3 + 8 ≠ 1291 by omega), up_ne (show 21 + 47 * j + 3 + 9 ≠ 1289 by omega), up_ne (show 21 + 47 * j + 3 + 9 ≠ 1290 by omega), up_ne (show 21 + 47 * j + 3 + 9 ≠ 1291 by omega), up_ne (show 21 + 47 * j + 3 + 9 ≠ 1292 by omega)]
    rw [← e2]
    simp only [up_ne (show 14 ≠ 1293 by omega), up_ne (show 14 ≠ 1292 by omega), up_ne (show 14 ≠ 1291 by omega), up_ne (show 14 ≠ 1290 by omega), up_ne (show 14 ≠ 1289 by omega), s14]
  | succ r ih =>
    intro m hr hm
    obtain ⟨m, rfl⟩ : ∃ q, m = q + 1 := ⟨m - 1, by omega⟩
    have e0 : nI (5 + (r + 1)) - 1 = nI (5 + r) := nI_pred (5 + r)
    rw [e0]
    have h : ¬ nI (5 + r) < 5 := nI_nlt (b := 5) (by omega) (by omega)
    have e1 : nI (1294 + r) - 5 = nI (1289 + r) := by
      show nI (1294 + r) - nI 5 = _
      rw [pk_sub (by omega)]; congr 1; omega
    have e2 : 1289 + nI (5 + r) = nI (1294 + r) := by
      show nI 1289 + nI (5 + r) = _
      rw [nI_add]; congr 1; omega
    simp only [B_X12_isTold_4_s, Bb_X12_isTold_4, h, false_implies, true_and, not_false_eq_true, true_implies, e1, e2]
    rw [ix_n (by omega) (by omega), ix_n (by omega) (by omega)]
    simp only [forall_eq, sw_i, sw_w]
    have e3 : nI (5 + r) + (-1) = nI (5 + r) - 1 := (Int32.sub_eq_add_neg _ _).symm
    have e4 : va_up (fun x => if 1289 + 5 + (r + 1) ≤ x ∧ x < 1589 then w (x - 5) else w x) (1294 + r) (if 1289 + 5 + (r + 1) ≤ 1289 + r ∧ 1289 + r < 1589 then w (1289 + r - 5) else w (1289 + r)) = fun x => if 1289 + 5 + r ≤ x ∧ x < 1589 then w (x - 5) else w x := by
      funext x
      rw [if_neg (show ¬ (1289 + 5 + (r + 1) ≤ 1289 + r ∧ 1289 + r < 1589) by omega)]
      by_cases c : x = 1294 + r
      · rw [c, up_eq, if_pos (by omega)]; congr 1; omega
      · rw [up_ne c]
        by_cases c2 : 1289 + 5 + r ≤ x ∧ x < 1589
        · rw [if_pos c2, if_pos (by omega)]
        · rw [if_neg c2, if_neg (by omega)]
    rw [e3, e4]
    exact ih m (by omega) (by omega)
end MW
end PU8
