section PU23
/-! A JOB FAILED: both sides -/
def wf4 (w : Wd) (p : Nat) (c : Int32) : Wd :=
  let w1 := va_up w (p + 6) (w (p + 6) + 1)
  let w2 : Wd := fun x => if p + 14 ≤ x ∧ x < p + 22 then w1 (x - 1) else w1 x
  let w3 := va_up w2 (p + 13) c
  va_up w3 (p + 7) (if w3 (p + 7) + 1 < 9 then w3 (p + 7) + 1 else 9)
def wfl (w : Wd) (j : Nat) (c : Int32) (B C T : Nat) : Wd :=
  let p := 21 + 47 * j + 25
  let w4 := wf4 w p c
  if c = 5 ∨ ¬ w4 (p + 6) < w4 13 then va_up w4 (p + 3) 3
  else va_up (va_up w4 (p + 3) 0) (p + 5) (w 3 + wtv w B C T (num w j))
theorem wfl_is {w : Wd} {j B C T : Nat} {c : Int32} {p : Nat} (hp : p = 21 + 47 * j + 25) : wfl w j c B C T = if c = 5 ∨ ¬ wf4 w p c (p + 6) < wf4 w p c 13 then va_up (wf4 w p c) (p + 3) 3 else va_up (va_up (wf4 w p c) (p + 3) 0) (p + 5) (w 3 + wtv w B C T (num w j)) := by
  subst hp; rfl
section WFL
variable {w : Wd} {p j : Nat} {c : Int32}
theorem wf4_out {x : Nat} (h : x < p + 6 ∨ p + 22 ≤ x) : wf4 w p c x = w x := by
  unfold wf4
  rw [up_ne (by omega), up_ne (by omega), if_neg (by omega), up_ne (by omega)]
theorem wf4_8 {x : Nat} (h : x = p + 8 ∨ x = p + 9 ∨ x = p + 10 ∨ x = p + 11 ∨ x = p + 12) : wf4 w p c x = w x := by
  unfold wf4
  rw [up_ne (by omega), up_ne (by omega), if_neg (by omega), up_ne (by omega)]
theorem wf4_6 : wf4 w p c (p + 6) = w (p + 6) + 1 := by
  unfold wf4
  rw [up_ne (by omega), up_ne (by omega), if_neg (by omega), up_eq]
theorem wf4_7 : wf4 w p c (p + 7) = if w (p + 7) + 1 < 9 then w (p + 7) + 1 else 9 := by
  unfold wf4
  rw [up_eq, up_ne (by omega), if_neg (show ¬ (p + 14 ≤ p + 7 ∧ p + 7 < p + 22) by omega), up_ne (by omega)]
theorem wf4_13 : wf4 w p c (p + 13) = c := by
  unfold wf4
  rw [up_ne (by omega), up_eq]
theorem wf4_c {k : Nat} (h : k < 8) : wf4 w p c (p + 13 + (k + 1)) = w (p + 13 + k) := by
  unfold wf4
  rw [up_ne (by omega), up_ne (by omega), if_pos (by omega), up_ne (by omega)]
  congr 1
theorem wfl_out {x : Nat} {B C T : Nat} (h : ¬ (21 + 47 * j + 25 ≤ x ∧ x < 21 + 47 * j + 47)) : wfl w j c B C T x = w x := by
  unfold wfl
  split
  · rw [up_ne (by omega), wf4_out (by omega)]
  · rw [up_ne (by omega), up_ne (by omega), wf4_out (by omega)]
end WFL
section MFB
variable {S : sSt} {w : Wd} {j : Nat}
theorem m_failsBy (hj : j < 24) {B C T L : Nat} (hJ : ∃ c, c ≤ 9 ∧ w 12 = nI c) (hB : B ≤ 9) (hC : C ≤ 99) (hT : T ≤ 9) (eB : w 10 = nI B) (eC : w 11 = nI C) (eT : w (21 + 47 * j + 25 + 6) + 1 = nI T) (hL : w 13 = nI L) {c : Int32} {k : sSt → Prop} : F_X12_failsBy (nI j) (nI (21 + 47 * j + 25)) c (sw S w) k ↔ k (sw S (wfl w j c B C T)) := by
  obtain ⟨p, hp⟩ : ∃ p, p = 21 + 47 * j + 25 := ⟨_, rfl⟩
  have hp1 : p + 22 ≤ 1149 := by omega
  have hp2 : 46 ≤ p := by omega
  have e6 : w (p + 6) + 1 = nI T := by rw [hp]; exact eT
  rw [F_X12_failsBy, forall_eq, ← hp, na_6, ix_n (by omega) (by omega), forall_eq, sw_i, sw_w]
  obtain ⟨w1, hw1⟩ : ∃ w1, w1 = va_up w (p + 6) (w (p + 6) + 1) := ⟨_, rfl⟩
  rw [← hw1]
  suffices h : ∀ r m, r ≤ 8 → r < m → (B_X12_failsBy_17 m (nI j) (nI p) c (nI r) (sw S (fun x => if p + 14 + r ≤ x ∧ x < p + 22 then w1 (x - 1) else w1 x)) k ↔ k (sw S (wfl w j c B C T))) by
    have := h 8 fuel (by omega) (fuel_gt (by omega))
    rw [show (fun x => if p + 14 + 8 ≤ x ∧ x < p + 22 then w1 (x - 1) else w1 x) = w1 from funext fun x => if_neg (by omega)] at this
    exact this
  intro r
  induction r with
  | zero =>
    intro m hr hm
    obtain ⟨m, rfl⟩ : ∃ q, m = q + 1 := ⟨m - 1, by omega⟩
    simp only [B_X12_failsBy_17_s, Bb_X12_failsBy_17, show nI 0 ≤ 0 from by decide, true_implies, not_true_eq_false, false_implies, and_true, na_13, na_7, na_6]
    rw [ix_n (by omega) (by omega)]
    simp only [forall_eq, sw_i, sw_w]
    rw [ix_n (by omega) (by omega)]
    have e4 : va_up (va_up (fun x => if p + 14 + 0 ≤ x ∧ x < p + 22 then w1 (x - 1) else w1 x) (p + 13) c) (p + 7) (if va_up (fun x => if p + 14 + 0 ≤ x ∧ x < p + 22 then w1 (x - 1) else w1 x) (p + 13) c (p + 7) + 1 < 9 then va_up (fun x => if p + 14 + 0 ≤ x ∧ x < p + 22 then w1 (x - 1) else w1 x) (p + 13) c (p + 7) + 1 else 9) = wf4 w p c := by
      unfold wf4
      rw [hw1]
    rw [e4]
    have w12 : wf4 w p c 12 = w 12 := wf4_out (by omega)
    have w10 : wf4 w p c 10 = w 10 := wf4_out (by omega)
    have w11 : wf4 w p c 11 = w 11 := wf4_out (by omega)
    have w13 : wf4 w p c 13 = w 13 := wf4_out (by omega)
    have w6 : wf4 w p c (p + 6) = nI T := wf4_6.trans e6
    have aside : ∀ {k : sSt → Prop}, B_X12_failsBy_113 (nI j) (nI p) (sw S (wf4 w p c)) k ↔ k (sw S (va_up (wf4 w p c) (p + 3) 3)) := by
      intro k
      rw [B_X12_failsBy_113, B_X12_failsBy_118]
      simp only [show ¬ ((1 : Int32) = 0) from by decide, false_implies, true_and, not_false_eq_true, true_implies, B_X12_failsBy_137, na_3]
      rw [ix_n (by omega) (by omega)]
      simp only [forall_eq, sw_i, show ¬ ((1 : Int32) = 0) from by decide, false_implies, and_true, not_false_eq_true, true_implies]
    have wait : ∀ {k : sSt → Prop}, B_X12_failsBy_118 (nI j) (nI p) 0 (sw S (wf4 w p c)) k ↔ k (sw S (va_up (va_up (wf4 w p c) (p + 3) 0) (p + 5) (w 3 + wtv w B C T (num w j)))) := by
      intro k
      rw [B_X12_failsBy_118]
      simp only [true_implies, not_true_eq_false, false_implies, and_true, B_X12_failsBy_137, na_3, na_6, na_5]
      rw [ix_n (by omega) (by omega)]
      simp only [forall_eq, sw_i, not_true_eq_false, false_implies, true_and, true_implies, m_numberOf hj, sw_w]
      rw [ix_n (by omega) (by omega), up_ne (by omega), w6]
      rw [m_waitOf (by rw [up_ne (by omega), w12]; exact hJ) hB hC hT (by rw [up_ne (by omega), w10]; exact eB) (by rw [up_ne (by omega), w11]; exact eC)]
      rw [ix_n (by omega) (by omega)]
      simp only [forall_eq, sw_i]
      have en : num (va_up (wf4 w p c) (p + 3) 0) j = num w j := by unfold num; rw [up_ne (by omega), wf4_out (by omega)]
      have e3 : va_up (wf4 w p c) (p + 3) 0 3 = w 3 := by rw [up_ne (by omega), wf4_out (by omega)]
      have ew : ∀ x, wtv (va_up (wf4 w p c) (p + 3) 0) B C T x = wtv w B C T x := fun x => by unfold wtv; rw [up_ne (by omega), w12]
      rw [en, e3, ew]
    rw [ix_n (by omega) (by omega), w6, w13, hL, aside, wait]
    rw [wfl_is hp, w6, w13, hL]
    by_cases c5 : c = 5
    · simp [c5]
    · by_cases c6 : nI T < nI L
      · simp [c5, c6, -Int32.not_lt]
      · simp [c5, c6, -Int32.not_lt]
  | succ r ih =>
    intro m hr hm
    obtain ⟨m, rfl⟩ : ∃ q, m = q + 1 := ⟨m - 1, by omega⟩
    have h0 : ¬ nI (r + 1) ≤ 0 := nI_nle (by omega) (by omega)
    have e1 : (nI p + 13) + nI (r + 1) - 1 = nI (p + 13 + r) := by
      rw [na_13, nI_add]; exact nI_pred (p + 13 + r)
    have e2 : (nI p + 13) + nI (r + 1) = nI (p + 13 + (r + 1)) := by rw [na_13, nI_add]
    have e3 : nI (r + 1) + (-1) = nI r := pk_m1 r
    simp only [B_X12_failsBy_17_s, Bb_X12_failsBy_17, h0, false_implies, true_and, not_false_eq_true, true_implies, e1]
    rw [ix_n (by omega) (by omega), e2, ix_n (by omega) (by omega)]
    simp only [forall_eq, sw_i, sw_w, e3]
    have e4 : va_up (fun x => if p + 14 + (r + 1) ≤ x ∧ x < p + 22 then w1 (x - 1) else w1 x) (p + 13 + (r + 1)) (if p + 14 + (r + 1) ≤ p + 13 + r ∧ p + 13 + r < p + 22 then w1 (p + 13 + r - 1) else w1 (p + 13 + r)) = fun x => if p + 14 + r ≤ x ∧ x < p + 22 then w1 (x - 1) else w1 x := by
      funext x
      rw [if_neg (show ¬ (p + 14 + (r + 1) ≤ p + 13 + r ∧ p + 13 + r < p + 22) by omega)]
      by_cases q : x = p + 13 + (r + 1)
      · rw [q, up_eq, if_pos (by omega)]; congr 1
      · rw [up_ne q]
        by_cases q2 : p + 14 + r ≤ x ∧ x < p + 22
        · rw [if_pos q2, if_pos (by omega)]
        · rw [if_neg q2, if_neg (by omega)]
    rw [e4]
    exact ih m (by omega) (by omega)
end MFB
end PU23
