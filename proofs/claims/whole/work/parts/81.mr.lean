section PU1
/-! THE MODEL'S READERS, told of its world w -/
def num (w : Wd) (j : Nat) : Int32 := w (21 + 47 * j)
def lkr (w : Wd) (j : Nat) : Int32 := w (21 + 47 * j + 2)
def lie (w : Wd) (j : Nat) : Bool := decide (num w j ≠ -1)
def isin (w : Wd) (j : Nat) : Bool := decide (num w j ≠ -1) && decide (w (21 + 47 * j + 1) = 1)
def oth (w : Wd) (j : Nat) (s : Int32) : Bool := decide (lkr w j ≠ -1) && decide (lkr w j ≠ s)
def mine (w : Wd) (j : Nat) (s : Int32) : Bool := decide (s ≠ -1) && decide (lkr w j = s)
def sees (w : Wd) (j : Nat) (s : Int32) : Bool := lie w j && (mine w j s || isin w j)
def ver (w : Wd) (j : Nat) (s : Int32) : Nat := if mine w j s then 21 + 47 * j + 25 else 21 + 47 * j + 3
def anyv (w : Wd) (j : Nat) : Nat := if isin w j then 21 + 47 * j + 3 else 21 + 47 * j + 25
def seeI (w : Wd) (j : Nat) (s : Int32) : Int32 := if sees w j s then nI (ver w j s) else -1
def opn (w : Wd) (s : Nat) : Bool := decide (w (1149 + 27 * s + 2) = 1)
def hasS (w : Wd) (s : Int32) : Bool := !(decide (s < 0) || decide (w 0 - 1 < s))
theorem ver_lt {w : Wd} {j : Nat} {s : Int32} (hj : j < 24) : ver w j s < 1128 := by unfold ver; split <;> omega
theorem anyv_lt {w : Wd} {j : Nat} (hj : j < 24) : anyv w j < 1128 := by unfold anyv; split <;> omega
section MRD
variable {S : sSt} {j : Nat}
theorem m_jobAt (f : Nat) {k : Int32 → sSt → Prop} : F_X12_jobAt (nI j) (nI f) S k ↔ k (nI (21 + 47 * j + f)) S := by
  rw [F_X12_jobAt, ja_n]
theorem m_jobAt0 {k : Int32 → sSt → Prop} : F_X12_jobAt (nI j) 0 S k ↔ k (nI (21 + 47 * j)) S := m_jobAt 0
theorem m_jobAt1 {k : Int32 → sSt → Prop} : F_X12_jobAt (nI j) 1 S k ↔ k (nI (21 + 47 * j + 1)) S := m_jobAt 1
theorem m_jobAt2 {k : Int32 → sSt → Prop} : F_X12_jobAt (nI j) 2 S k ↔ k (nI (21 + 47 * j + 2)) S := m_jobAt 2
theorem m_jobAt3 {k : Int32 → sSt → Prop} : F_X12_jobAt (nI j) 3 S k ↔ k (nI (21 + 47 * j + 3)) S := m_jobAt 3
theorem m_jobAt25 {k : Int32 → sSt → Prop} : F_X12_jobAt (nI j) 25 S k ↔ k (nI (21 + 47 * j + 25)) S := m_jobAt 25
theorem m_sessAt (f : Nat) {k : Int32 → sSt → Prop} : F_X12_sessionAt (nI j) (nI f) S k ↔ k (nI (1149 + 27 * j + f)) S := by
  rw [F_X12_sessionAt, sa_n]
theorem m_sessAt0 {k : Int32 → sSt → Prop} : F_X12_sessionAt (nI j) 0 S k ↔ k (nI (1149 + 27 * j)) S := m_sessAt 0
theorem m_sessAt1 {k : Int32 → sSt → Prop} : F_X12_sessionAt (nI j) 1 S k ↔ k (nI (1149 + 27 * j + 1)) S := m_sessAt 1
theorem m_sessAt2 {k : Int32 → sSt → Prop} : F_X12_sessionAt (nI j) 2 S k ↔ k (nI (1149 + 27 * j + 2)) S := m_sessAt 2
theorem m_sessAt3 {k : Int32 → sSt → Prop} : F_X12_sessionAt (nI j) 3 S k ↔ k (nI (1149 + 27 * j + 3)) S := m_sessAt 3
theorem m_sessAt4 {k : Int32 → sSt → Prop} : F_X12_sessionAt (nI j) 4 S k ↔ k (nI (1149 + 27 * j + 4)) S := m_sessAt 4
theorem m_sessAt5 {k : Int32 → sSt → Prop} : F_X12_sessionAt (nI j) 5 S k ↔ k (nI (1149 + 27 * j + 5)) S := m_sessAt 5
theorem m_sessAt18 {k : Int32 → sSt → Prop} : F_X12_sessionAt (nI j) 18 S k ↔ k (nI (1149 + 27 * j + 18)) S := m_sessAt 18
theorem m_planAt (f : Nat) {k : Int32 → sSt → Prop} : F_X12_planAt (nI j) (nI f) S k ↔ k (nI (1257 + 8 * j + f)) S := by
  rw [F_X12_planAt, pa_n]
theorem m_planAt0 {k : Int32 → sSt → Prop} : F_X12_planAt (nI j) 0 S k ↔ k (nI (1257 + 8 * j)) S := m_planAt 0
theorem m_planAt1 {k : Int32 → sSt → Prop} : F_X12_planAt (nI j) 1 S k ↔ k (nI (1257 + 8 * j + 1)) S := m_planAt 1
theorem m_planAt2 {k : Int32 → sSt → Prop} : F_X12_planAt (nI j) 2 S k ↔ k (nI (1257 + 8 * j + 2)) S := m_planAt 2
theorem m_planAt3 {k : Int32 → sSt → Prop} : F_X12_planAt (nI j) 3 S k ↔ k (nI (1257 + 8 * j + 3)) S := m_planAt 3
theorem m_planAt4 {k : Int32 → sSt → Prop} : F_X12_planAt (nI j) 4 S k ↔ k (nI (1257 + 8 * j + 4)) S := m_planAt 4
theorem m_planAt5 {k : Int32 → sSt → Prop} : F_X12_planAt (nI j) 5 S k ↔ k (nI (1257 + 8 * j + 5)) S := m_planAt 5
theorem m_planAt6 {k : Int32 → sSt → Prop} : F_X12_planAt (nI j) 6 S k ↔ k (nI (1257 + 8 * j + 6)) S := m_planAt 6
theorem m_planAt7 {k : Int32 → sSt → Prop} : F_X12_planAt (nI j) 7 S k ↔ k (nI (1257 + 8 * j + 7)) S := m_planAt 7
theorem m_numberOf (hj : j < 24) {k : Int32 → sSt → Prop} : F_X12_numberOf (nI j) S k ↔ k (num (S.1 1 0) j) S := by
  rw [F_X12_numberOf, m_jobAt0, ix_n (by omega) (by omega)]; rfl
theorem m_lockerOf (hj : j < 24) {k : Int32 → sSt → Prop} : F_X12_lockerOf (nI j) S k ↔ k (lkr (S.1 1 0) j) S := by
  rw [F_X12_lockerOf, m_jobAt2, ix_n (by omega) (by omega)]; rfl
theorem m_isIn (hj : j < 24) {k : Int32 → sSt → Prop} : F_X12_isIn (nI j) S k ↔ k (b2i (isin (S.1 1 0) j)) S := by
  rw [F_X12_isIn, m_numberOf hj, m_jobAt1, ix_n (by omega) (by omega), cdi, cdn]
  unfold isin
  by_cases h1 : num (S.1 1 0) j = -1 <;> by_cases h2 : S.1 1 0 (21 + 47 * j + 1) = 1 <;> simp [h1, h2, b2i]
theorem m_isOpen (hj : j < 4) {k : Int32 → sSt → Prop} : F_X12_isOpen (nI j) S k ↔ k (b2i (opn (S.1 1 0) j)) S := by
  rw [F_X12_isOpen, m_sessAt2, ix_n (by omega) (by omega), cdn]
  unfold opn
  by_cases h2 : S.1 1 0 (1149 + 27 * j + 2) = 1 <;> simp [h2, b2i]
theorem m_in {a b c : Int32} {k : Int32 → sSt → Prop} : F_X12_in a b c S k ↔ k (b2i (!(decide (a < b) || decide (c < a)))) S := by
  rw [F_X12_in, cdi, cdi]
  by_cases h1 : a < b <;> by_cases h2 : c < a <;> simp [h1, h2, b2i]
theorem m_noSession {a : Int32} {k : Int32 → sSt → Prop} : F_X12_noSession a S k ↔ k (b2i (!hasS (S.1 1 0) a)) S := by
  rw [F_X12_noSession, m_in, cdn]
  unfold hasS
  by_cases h1 : a < 0 <;> by_cases h2 : (S.1 1 0 0 - 1) < a <;> simp [h1, h2, b2i]
theorem m_seen (hj : j < 24) {s : Int32} {k : Int32 → sSt → Prop} : F_X12_seen (nI j) s S k ↔ k (seeI (S.1 1 0) j s) S := by
  simp only [F_X12_seen, B_X12_seen_32, m_numberOf hj, m_lockerOf hj, m_isIn hj, m_jobAt3, m_jobAt25, cdi, cdn]
  unfold seeI sees ver mine lie
  by_cases h1 : num (S.1 1 0) j = -1 <;> by_cases h2 : s = -1 <;> by_cases h3 : lkr (S.1 1 0) j = s <;> cases h4 : isin (S.1 1 0) j <;> simp [h1, h2, h3, h4, b2i] <;> simp_all
theorem m_isOthers (hj : j < 24) {s : Int32} {k : Int32 → sSt → Prop} : F_X12_isOthers (nI j) s S k ↔ k (b2i (oth (S.1 1 0) j s)) S := by
  simp only [F_X12_isOthers, m_lockerOf hj, cdi]
  unfold oth
  by_cases h2 : lkr (S.1 1 0) j = -1 <;> by_cases h3 : lkr (S.1 1 0) j = s <;> simp [h2, h3, b2i]
theorem m_anyVersion (hj : j < 24) {k : Int32 → sSt → Prop} : F_X12_anyVersion (nI j) S k ↔ k (nI (anyv (S.1 1 0) j)) S := by
  simp only [F_X12_anyVersion, B_X12_anyVersion_15, m_isIn hj, m_jobAt3, m_jobAt25, cdi]
  unfold anyv
  cases isin (S.1 1 0) j <;> simp [b2i]
theorem m_jobsLying {k : Int32 → sSt → Prop} : F_X12_jobsLying S k ↔ k (nI ((List.range' 0 24).countP (lie (S.1 1 0)))) S := by
  rw [F_X12_jobsLying]
  refine lp_sum0 (L := fun m c i => B_X12_jobsLying_4 m c i S k) (K := fun c => k c S) _ (fuel_gt (by omega)) (fun m c => ?_) (fun m c i hi => ?_)
  · simp only [B_X12_jobsLying_4_s, Bb_X12_jobsLying_4, cdi]
    simp [show (24 : Int32) ≤ nI 24 from by decide]
  · have h : ¬ (24 : Int32) ≤ nI i := nI_ge (b := 24) hi (by omega)
    simp only [B_X12_jobsLying_4_s, Bb_X12_jobsLying_4, B_X12_jobsLying_25, m_numberOf hi, h, forall_eq, nI_1, false_implies, true_implies, not_false_eq_true, true_and, cdn]
    unfold lie
    by_cases h2 : num (S.1 1 0) i = -1 <;> simp [h2, b2i]
end MRD
end PU1
