section PU2
/-! A GOOD WORLD: bounds of what lies in it -/
def VOK (w : Wd) (p : Nat) : Prop := (∃ g, g < 6 ∧ w p = nI g) ∧ (∃ c, 1 ≤ c ∧ c ≤ 9 ∧ w (p + 2) = nI c) ∧ (∃ x, x < 4 ∧ w (p + 3) = nI x) ∧ (∃ d, d ≤ 10107 ∧ w (p + 5) = nI d) ∧ (∃ n, n ≤ 9 ∧ w (p + 6) = nI n ∧ (n = 9 → w (p + 3) = 3)) ∧ (∃ n, n ≤ 9 ∧ w (p + 7) = nI n) ∧ (∀ k, k < 9 → ∃ c, c < 7 ∧ w (p + 13 + k) = nI c)
def JOK (w : Wd) (ns cm j : Nat) : Prop := num w j = -1 ∨ ((∃ n, n < cm ∧ num w j = nI n) ∧ (w (21 + 47 * j + 1) = 0 ∨ w (21 + 47 * j + 1) = 1) ∧ (w (21 + 47 * j + 1) = 1 ∨ lkr w j ≠ -1) ∧ (lkr w j = -1 ∨ ∃ s, s < ns ∧ lkr w j = nI s) ∧ (w (21 + 47 * j + 1) = 1 → VOK w (21 + 47 * j + 3)) ∧ (lkr w j ≠ -1 → VOK w (21 + 47 * j + 25)))
def SOK (w : Wd) (s : Nat) : Prop := (w (1149 + 27 * s + 2) = 0 ∨ w (1149 + 27 * s + 2) = 1) ∧ (∃ k, k ≤ 4 ∧ w (1149 + 27 * s + 3) = nI k ∧ (w (1149 + 27 * s + 2) = 0 → k = 0)) ∧ (∃ g, g < 6 ∧ w (1149 + 27 * s + 1) = nI g) ∧ (∃ c, 1 ≤ c ∧ c ≤ 6 ∧ w (1149 + 27 * s + 4) = nI c) ∧ (∃ c, c ≤ 4 ∧ w (1149 + 27 * s + 5) = nI c) ∧ (∃ c, c ≤ 4 ∧ w (1149 + 27 * s + 18) = nI c)
def POK (w : Wd) (p : Nat) : Prop := (∃ e, 1 ≤ e ∧ e ≤ 60 ∧ w (1257 + 8 * p) = nI e) ∧ (∃ a, a ≤ 59 ∧ w (1257 + 8 * p + 1) = nI a) ∧ (∃ g, g < 6 ∧ w (1257 + 8 * p + 2) = nI g) ∧ (∃ c, 1 ≤ c ∧ c ≤ 9 ∧ w (1257 + 8 * p + 4) = nI c) ∧ (w (1257 + 8 * p + 7) = -1 ∨ ∃ n, n ≤ 9999 ∧ w (1257 + 8 * p + 7) = nI n)
/-- what has been counted: sessions, schedules, jobs that came, rows of the log -/
def WF (w : Wd) (ns np cm nl : Nat) : Prop :=
  (∃ e, e ≤ 12 ∧ w 2 = nI e) ∧ (ns ≤ 4 ∧ w 0 = nI ns) ∧ (np ≤ 4 ∧ w 1 = nI np) ∧ (cm < 1000000 ∧ w 6 = nI cm) ∧ (nl ≤ 60 ∧ w 14 = nI nl) ∧
  (∀ j, j < 24 → JOK w ns cm j) ∧ (∀ i j, i < 24 → j < 24 → lie w i = true → num w i = num w j → i = j) ∧
  (∀ s, s < ns → SOK w s) ∧ (∀ p, p < np → POK w p) ∧
  (∃ m, m ≤ 9999 ∧ w 3 = nI m) ∧ (∃ m, m ≤ 9999 ∧ w 4 = nI m) ∧
  (∃ b, 1 ≤ b ∧ b ≤ 9 ∧ w 10 = nI b) ∧ (∃ c, 1 ≤ c ∧ c ≤ 99 ∧ w 11 = nI c) ∧ (∃ c, c ≤ 9 ∧ w 12 = nI c) ∧ (∃ c, 1 ≤ c ∧ c ≤ 9 ∧ w 13 = nI c) ∧
  (∀ g, g < 6 → ∃ c, 1 ≤ c ∧ c ≤ 4 ∧ w (15 + g) = nI c)
section WFR
variable {w : Wd} {ns np cm nl : Nat}
theorem WF.edt (h : WF w ns np cm nl) : ∃ e, e ≤ 12 ∧ w 2 = nI e := h.1
theorem WF.hns (h : WF w ns np cm nl) : ns ≤ 4 ∧ w 0 = nI ns := h.2.1
theorem WF.hnp (h : WF w ns np cm nl) : np ≤ 4 ∧ w 1 = nI np := h.2.2.1
theorem WF.hcm (h : WF w ns np cm nl) : cm < 1000000 ∧ w 6 = nI cm := h.2.2.2.1
theorem WF.hnl (h : WF w ns np cm nl) : nl ≤ 60 ∧ w 14 = nI nl := h.2.2.2.2.1
theorem WF.job (h : WF w ns np cm nl) : ∀ j, j < 24 → JOK w ns cm j := h.2.2.2.2.2.1
theorem WF.one (h : WF w ns np cm nl) : ∀ i j, i < 24 → j < 24 → lie w i = true → num w i = num w j → i = j := h.2.2.2.2.2.2.1
theorem WF.ses (h : WF w ns np cm nl) : ∀ s, s < ns → SOK w s := h.2.2.2.2.2.2.2.1
theorem WF.pln (h : WF w ns np cm nl) : ∀ p, p < np → POK w p := h.2.2.2.2.2.2.2.2.1
theorem WF.mono (h : WF w ns np cm nl) : ∃ m, m ≤ 9999 ∧ w 3 = nI m := h.2.2.2.2.2.2.2.2.2.1
theorem WF.wall (h : WF w ns np cm nl) : ∃ m, m ≤ 9999 ∧ w 4 = nI m := h.2.2.2.2.2.2.2.2.2.2.1
theorem WF.base (h : WF w ns np cm nl) : ∃ b, 1 ≤ b ∧ b ≤ 9 ∧ w 10 = nI b := h.2.2.2.2.2.2.2.2.2.2.2.1
theorem WF.cap (h : WF w ns np cm nl) : ∃ c, 1 ≤ c ∧ c ≤ 99 ∧ w 11 = nI c := h.2.2.2.2.2.2.2.2.2.2.2.2.1
theorem WF.jit (h : WF w ns np cm nl) : ∃ c, c ≤ 9 ∧ w 12 = nI c := h.2.2.2.2.2.2.2.2.2.2.2.2.2.1
theorem WF.lim (h : WF w ns np cm nl) : ∃ c, 1 ≤ c ∧ c ≤ 9 ∧ w 13 = nI c := h.2.2.2.2.2.2.2.2.2.2.2.2.2.2.1
theorem WF.par (h : WF w ns np cm nl) : ∀ g, g < 6 → ∃ c, 1 ≤ c ∧ c ≤ 4 ∧ w (15 + g) = nI c := h.2.2.2.2.2.2.2.2.2.2.2.2.2.2.2
theorem lie_n {j : Nat} (h : lie w j = true) : num w j ≠ -1 := by simpa [lie] using h
theorem isin_lie {j : Nat} (h : isin w j = true) : lie w j = true := by simp only [isin, lie, Bool.and_eq_true] at h ⊢; exact h.1
theorem isin_1 {j : Nat} (h : isin w j = true) : w (21 + 47 * j + 1) = 1 := by simp only [isin, Bool.and_eq_true, decide_eq_true_eq] at h; exact h.2
theorem sees_lie {j : Nat} {s : Int32} (h : sees w j s = true) : lie w j = true := by simp only [sees, Bool.and_eq_true] at h; exact h.1
/-- a job that lies: its number -/
theorem WF.nu (h : WF w ns np cm nl) {j : Nat} (hj : j < 24) (hl : lie w j = true) : ∃ n, n < cm ∧ num w j = nI n := by
  rcases h.job j hj with q | q
  · exact absurd q (lie_n hl)
  · exact q.1
theorem WF.vok (h : WF w ns np cm nl) {j : Nat} (hj : j < 24) (hl : lie w j = true) : VOK w (anyv w j) := by
  rcases h.job j hj with q | ⟨_, q1, q2, q3, q4, q5⟩
  · exact absurd q (lie_n hl)
  · unfold anyv
    have hn := lie_n hl
    by_cases c : w (21 + 47 * j + 1) = 1
    · have : isin w j = true := by simp [isin, c, hn]
      rw [if_pos this]; exact q4 c
    · have : isin w j = false := by simp [isin, c]
      rw [this]
      rcases q2 with q2 | q2
      · exact absurd q2 c
      · exact q5 q2
theorem WF.vver (h : WF w ns np cm nl) {j : Nat} {s : Int32} (hj : j < 24) (hl : sees w j s = true) : VOK w (ver w j s) := by
  rcases h.job j hj with q | ⟨_, q1, q2, q3, q4, q5⟩
  · exact absurd q (lie_n (sees_lie hl))
  · unfold ver
    simp only [sees, Bool.and_eq_true, Bool.or_eq_true] at hl
    cases c : mine w j s
    · rcases hl.2 with q6 | q6
      · rw [c] at q6; exact absurd q6 (by decide)
      · exact q4 (isin_1 q6)
    · rw [if_pos rfl]
      simp only [mine, Bool.and_eq_true, decide_eq_true_eq] at c
      exact q5 (by rw [c.2]; exact c.1)
end WFR
theorem lp_any {L : Nat → Int32 → Int32 → Prop} {K : Bool → Prop} {N : Nat} (P : Nat → Bool) (he : ∀ m b, L (m + 1) (b2i b) (nI N) ↔ K b) (ht : ∀ m i, i < N → (L (m + 1) 1 (nI i) ↔ K true)) (hs : ∀ m i, i < N → (L (m + 1) 0 (nI i) ↔ L m (b2i (P i)) (nI (i + 1)))) :
    ∀ (r i m : Nat) (b : Bool), i + r = N → r < m → (L m (b2i b) (nI i) ↔ K (b || (List.range' i r).any P)) := by
  intro r
  induction r with
  | zero =>
    intro i m b hi hm
    obtain ⟨m, rfl⟩ : ∃ q, m = q + 1 := ⟨m - 1, by omega⟩
    have : i = N := by omega
    subst this
    rw [he]
    simp
  | succ r ih =>
    intro i m b hi hm
    obtain ⟨m, rfl⟩ : ∃ q, m = q + 1 := ⟨m - 1, by omega⟩
    cases b
    · rw [b2i_f, hs m i (by omega), ih (i + 1) m _ (by omega) (by omega), List.range'_succ, List.any_cons]
      simp
    · rw [b2i_t, ht m i (by omega)]
      simp
theorem lp_any0 {L : Nat → Int32 → Int32 → Prop} {K : Bool → Prop} {N M : Nat} (P : Nat → Bool) (hN : N < M) (he : ∀ m b, L (m + 1) (b2i b) (nI N) ↔ K b) (ht : ∀ m i, i < N → (L (m + 1) 1 (nI i) ↔ K true)) (hs : ∀ m i, i < N → (L (m + 1) 0 (nI i) ↔ L m (b2i (P i)) (nI (i + 1)))) : L M 0 0 ↔ K ((List.range' 0 N).any P) := by
  have := lp_any P he ht hs N 0 M false (by omega) hN
  rw [Bool.false_or] at this
  exact this
theorem lp_all {L : Nat → Int32 → Int32 → Prop} {K : Bool → Prop} {N : Nat} (P : Nat → Bool) (he : ∀ m b, L (m + 1) (b2i b) (nI N) ↔ K b) (ht : ∀ m i, i < N → (L (m + 1) 0 (nI i) ↔ K false)) (hs : ∀ m i, i < N → (L (m + 1) 1 (nI i) ↔ L m (b2i (P i)) (nI (i + 1)))) :
    ∀ (r i m : Nat) (b : Bool), i + r = N → r < m → (L m (b2i b) (nI i) ↔ K (b && (List.range' i r).all P)) := by
  intro r
  induction r with
  | zero =>
    intro i m b hi hm
    obtain ⟨m, rfl⟩ : ∃ q, m = q + 1 := ⟨m - 1, by omega⟩
    have : i = N := by omega
    subst this
    rw [he]
    simp
  | succ r ih =>
    intro i m b hi hm
    obtain ⟨m, rfl⟩ : ∃ q, m = q + 1 := ⟨m - 1, by omega⟩
    cases b
    · rw [b2i_f, ht m i (by omega)]
      simp
    · rw [b2i_t, hs m i (by omega), ih (i + 1) m _ (by omega) (by omega), List.range'_succ, List.all_cons]
      simp
theorem lp_all0 {L : Nat → Int32 → Int32 → Prop} {K : Bool → Prop} {N M : Nat} (P : Nat → Bool) (hN : N < M) (he : ∀ m b, L (m + 1) (b2i b) (nI N) ↔ K b) (ht : ∀ m i, i < N → (L (m + 1) 0 (nI i) ↔ K false)) (hs : ∀ m i, i < N → (L (m + 1) 1 (nI i) ↔ L m (b2i (P i)) (nI (i + 1)))) : L M 1 0 ↔ K ((List.range' 0 N).all P) := by
  have := lp_all P he ht hs N 0 M true (by omega) hN
  rw [Bool.true_and] at this
  exact this
/-! what the model asks before a claim -/
def isof (w : Wd) (j : Nat) (g : Int32) : Bool := lie w j && decide (w (anyv w j) = g)
def stt (w : Wd) (j : Nat) (s x : Int32) : Bool := sees w j s && decide (w (ver w j s + 3) = x)
def grp (w : Wd) (j : Nat) : Int32 := w (anyv w j)
def lesser (w : Wd) (j : Nat) (s : Int32) : Bool := (List.range' 0 24).any (fun o => isof w o (grp w j) && decide (num w o < num w j) && stt w o s 0)
def taken (w : Wd) (g s : Int32) : Nat := (List.range' 0 24).countP (fun o => isof w o g && (oth w o s || stt w o s 1))
def full (w : Wd) (g : Nat) (s : Int32) : Bool := !decide (nI (taken w (nI g) s) < w (15 + g))
def col (w : Wd) (j : Nat) (s : Nat) (c : Int32) : Int32 :=
  if c = 0 then num w j else if c = 1 then w (ver w j (nI s)) else if c = 2 then w (ver w j (nI s) + 1) else if c = 3 then w (ver w j (nI s) + 2) else if c = 4 then w (ver w j (nI s) + 6) else if c = 5 then w 3 - w (ver w j (nI s) + 4) else if c = 6 then w 3 - w (ver w j (nI s) + 5) else (((w (ver w j (nI s)) + 6) - 1) - w (1149 + 27 * s + 1)) - (((w (ver w j (nI s)) + 6) - 1) - w (1149 + 27 * s + 1)) / 6 * 6
def sgn (x v n : Int32) : Bool := if x = 0 then decide (v = n) else if x = 1 then !decide (v = n) else if x = 2 then !decide (n ≤ v) else !decide (v ≤ n)
def asked1 (w : Wd) (j s k : Nat) : Bool := sgn (w (1149 + 27 * s + (6 + 3 * k) + 1)) (col w j s (w (1149 + 27 * s + (6 + 3 * k)))) (w (1149 + 27 * s + (6 + 3 * k) + 2))
def asked (w : Wd) (j s tc : Nat) : Bool := (List.range' 0 tc).all (asked1 w j s)
def ahd (w : Wd) (a b s : Nat) : Nat → Nat → Bool
  | _, 0 => !decide (num w b ≤ num w a)
  | k, r + 1 => if col w a s (w (1149 + 27 * s + (19 + 2 * k))) = col w b s (w (1149 + 27 * s + (19 + 2 * k))) then ahd w a b s (k + 1) r else decide (b2i (!decide (col w b s (w (1149 + 27 * s + (19 + 2 * k))) ≤ col w a s (w (1149 + 27 * s + (19 + 2 * k))))) = b2i (decide (w (1149 + 27 * s + (19 + 2 * k) + 1) = 0)))
def mayc (w : Wd) (j s : Nat) : Bool := stt w j (nI s) 0 && !oth w j (nI s) && !decide (w 3 < w (ver w j (nI s) + 5)) && !lesser w j (nI s) && !full w (grp w j).toNatClampNeg (nI s)
def oI (o : Option Nat) : Int32 := match o with | none => -1 | some j => nI j
def btr (A : Nat → Nat → Bool) (i : Nat) (b : Option Nat) : Bool := match b with | none => true | some c => A i c
def bst (P : Nat → Bool) (A : Nat → Nat → Bool) (b : Option Nat) (i r : Nat) : Option Nat := match r with
  | 0 => b
  | r + 1 => bst P A (cond (P i && btr A i b) (some i) b) (i + 1) r
theorem bst_0 {P : Nat → Bool} {A : Nat → Nat → Bool} {b : Option Nat} {i : Nat} : bst P A b i 0 = b := rfl
theorem bst_s {P : Nat → Bool} {A : Nat → Nat → Bool} {b : Option Nat} {i r : Nat} : bst P A b i (r + 1) = bst P A (cond (P i && btr A i b) (some i) b) (i + 1) r := rfl
section MRE
variable {S : sSt} {j : Nat}
theorem m_isOf (hj : j < 24) {g : Int32} {k : Int32 → sSt → Prop} : F_X12_isOf (nI j) g S k ↔ k (b2i (isof (S.1 1 0) j g)) S := by
  have := anyv_lt (w := S.1 1 0) hj
  rw [F_X12_isOf, m_numberOf hj, m_anyVersion hj, na_0, ix_n (by omega) (by omega), cdi, cdn]
  unfold isof lie
  by_cases h1 : num (S.1 1 0) j = -1 <;> by_cases h2 : S.1 1 0 (anyv (S.1 1 0) j) = g <;> simp [h1, h2, b2i]
theorem m_isState (hj : j < 24) {s x : Int32} {k : Int32 → sSt → Prop} : F_X12_isState (seeI (S.1 1 0) j s) x S k ↔ k (b2i (stt (S.1 1 0) j s x)) S := by
  have := ver_lt (w := S.1 1 0) (s := s) hj
  rw [F_X12_isState]
  unfold stt seeI
  cases h1 : sees (S.1 1 0) j s
  · simp [b2i]
  · simp only [if_true, ni_m1 (show ver (S.1 1 0) j s < 2147483648 by omega), false_implies, not_false_eq_true, true_implies, true_and, na_3]
    rw [ix_n (by omega) (by omega), cdn]
    by_cases h2 : S.1 1 0 (ver (S.1 1 0) j s + 3) = x <;> simp [h2, b2i]
theorem m_hasLesser (hj : j < 24) {s : Int32} {k : Int32 → sSt → Prop} : F_X12_hasLesser (nI j) s S k ↔ k (b2i (lesser (S.1 1 0) j s)) S := by
  have := anyv_lt (w := S.1 1 0) hj
  rw [F_X12_hasLesser, m_anyVersion hj, na_0, ix_n (by omega) (by omega), forall_eq]
  refine lp_any0 (L := fun m b i => B_X12_hasLesser_19 m (nI j) s b (S.1 1 0 (anyv (S.1 1 0) j)) i S k) (K := fun b => k (b2i b) S) _ (fuel_gt (by omega)) (fun m b => ?_) (fun m i hi => ?_) (fun m i hi => ?_)
  · simp only [B_X12_hasLesser_19_s, Bb_X12_hasLesser_19, bz_b]
    simp [show (24 : Int32) ≤ nI 24 from by decide]
  · have h : ¬ (24 : Int32) ≤ nI i := nI_ge (b := 24) hi (by omega)
    simp only [B_X12_hasLesser_19_s, Bb_X12_hasLesser_19, h, bz_1, b2i_t]
    simp
  · have h : ¬ (24 : Int32) ≤ nI i := nI_ge (b := 24) hi (by omega)
    simp only [B_X12_hasLesser_19_s, Bb_X12_hasLesser_19, B_X12_hasLesser_74, B_X12_hasLesser_75, h, m_isOf hi, m_numberOf hi, m_numberOf hj, m_seen hi, m_isState hi, forall_eq, nI_1, b2i_0, false_implies, true_implies, not_false_eq_true, true_and, not_true_eq_false, Bool.not_eq_false, and_true, cdi, cdn, show (num (S.1 1 0) j ≤ num (S.1 1 0) i) ↔ ¬ (num (S.1 1 0) i < num (S.1 1 0) j) from Int32.not_lt.symm]
    unfold grp
    cases h1 : isof (S.1 1 0) i (S.1 1 0 (anyv (S.1 1 0) j)) <;> by_cases h2 : num (S.1 1 0) i < num (S.1 1 0) j <;> cases h3 : stt (S.1 1 0) i s 0 <;> simp [h1, h2, h3, b2i]
theorem m_isFull (hj : j < 24) {g : Nat} (hg : S.1 1 0 (anyv (S.1 1 0) j) = nI g) (hg6 : g < 6) {s : Int32} {k : Int32 → sSt → Prop} : F_X12_isFull (nI j) s S k ↔ k (b2i (full (S.1 1 0) g s)) S := by
  have := anyv_lt (w := S.1 1 0) hj
  rw [F_X12_isFull, m_anyVersion hj, na_0, ix_n (by omega) (by omega), forall_eq, hg]
  refine (lp_sum0 (L := fun m c i => B_X12_isFull_19 m s (nI g) c i S k) (K := fun c => k (b2i (!decide (c < S.1 1 0 (15 + g)))) S) (fun o => isof (S.1 1 0) o (nI g) && (oth (S.1 1 0) o s || stt (S.1 1 0) o s 1)) (fuel_gt (by omega)) (fun m c => ?_) (fun m c i hi => ?_))
  · simp only [B_X12_isFull_19_s, Bb_X12_isFull_19, na_15]
    rw [ix_n (by omega) (by omega)]
    by_cases h2 : c < S.1 1 0 (15 + g) <;> simp [show (24 : Int32) ≤ nI 24 from by decide, h2, b2i]
  · have h : ¬ (24 : Int32) ≤ nI i := nI_ge (b := 24) hi (by omega)
    simp only [B_X12_isFull_19_s, Bb_X12_isFull_19, B_X12_isFull_67, B_X12_isFull_63, B_X12_isFull_68, h, m_isOf hi, m_isOthers hi, m_seen hi, m_isState hi, forall_eq, nI_1, b2i_0, false_implies, true_implies, not_false_eq_true, true_and, Bool.not_eq_false, cdi, cdn]
    cases h1 : isof (S.1 1 0) i (nI g) <;> cases h2 : oth (S.1 1 0) i s <;> cases h3 : stt (S.1 1 0) i s 1 <;> simp [b2i]
end MRE
end PU2
