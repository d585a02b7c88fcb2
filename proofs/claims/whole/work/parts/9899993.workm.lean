section PU59
/-! CALL work: the model -/
def bv (x : Nat) : Int32 := if x = 0 then -1 else if x = 1 then 1000000 else nI (x - 2)
def WDN (w : Wd) (d : Nat → Nat → Nat) : Prop := (∀ j, j < 24 → lie w j = true → num w j = nI (d 3 j) ∧ d 3 j < 1000000) ∧ ∀ g, g < 6 → w (15 + g) = nI (d 4 g) ∧ 1 ≤ d 4 g ∧ d 4 g ≤ 4
/-- what d says of the jobs in I is what lies in w -/
def WDF (w : Wd) (d : Nat → Nat → Nat) (I : Nat → Bool) : Prop := WDN w d ∧ ∀ j, j < 24 → I j = true → lie w j = true ∧ w (21 + 47 * j + 3 + 2) = nI (d 0 j) ∧ 1 ≤ d 0 j ∧ d 0 j ≤ 9 ∧ w (21 + 47 * j + 3) = nI (d 2 j) ∧ d 2 j < 6 ∧ d 1 j ≤ 10107 ∧ (if w (21 + 47 * j + 3 + 3) = 1 then w 3 else w (21 + 47 * j + 3 + 5)) = nI (d 1 j)
section CS
variable {S S' : sSt} {w : Wd} {d : Nat → Nat → Nat} {I : Nat → Bool} {β : Nat → Nat} {t j : Nat}
theorem bv_0 : bv 0 = -1 := rfl
theorem bv_1 : bv 1 = 1000000 := rfl
theorem bv_2 {x : Nat} : bv (x + 2) = nI x := by
  unfold bv; rw [if_neg (by omega), if_neg (by omega)]; rfl
theorem bv_c (x : Nat) : x = 0 ∨ x = 1 ∨ ∃ y, x = y + 2 := by
  rcases x with _ | _ | y
  · exact Or.inl rfl
  · exact Or.inr (Or.inl rfl)
  · exact Or.inr (Or.inr ⟨y, rfl⟩)
theorem bv_m {x : Nat} (hx : x < 1000002) : bv x = -1 ↔ x = 0 := by
  rcases bv_c x with rfl | rfl | ⟨y, rfl⟩
  · simp [bv_0]
  · rw [bv_1]; exact ⟨fun q => absurd q (by decide), fun q => absurd q (by decide)⟩
  · rw [bv_2]; exact ⟨fun q => absurd q (ni_m1 (by omega)), fun q => absurd q (by omega)⟩
theorem bv_w {x : Nat} (hx : x < 1000002) : bv x = 1000000 ↔ x = 1 := by
  rcases bv_c x with rfl | rfl | ⟨y, rfl⟩
  · rw [bv_0]; exact ⟨fun q => absurd q (by decide), fun q => absurd q (by decide)⟩
  · simp [bv_1]
  · rw [bv_2, show (1000000 : Int32) = nI 1000000 from rfl, nI_eq (by omega) (by omega)]
    omega
theorem m_dueOf (hD : WDF w d I) (hj : j < 24) (hI : I j = true) {k : Int32 → sSt → Prop} : F_X12_dueOf (nI j) (sw S w) k ↔ k (nI (d 1 j)) (sw S w) := by
  obtain ⟨-, -, -, -, -, -, -, h⟩ := hD.2 j hj hI
  rw [F_X12_dueOf, m_jobAt3, na_3, na_5, ix_n (by omega) (by omega), ix_n (by omega) (by omega), sw_w]
  by_cases c : w (21 + 47 * j + 3 + 3) = 1
  · rw [if_pos c] at h
    rw [h]
    exact ⟨fun q => q.2 c, fun q => ⟨fun z => absurd c z, fun _ => q⟩⟩
  · rw [if_neg c] at h
    rw [h]
    exact ⟨fun q => q.1 c, fun q => ⟨fun _ => q, fun z => absurd z c⟩⟩
theorem m_isAtWork (hD : WDF w d I) (hj : j < 24) (hc : S.1 11 0 j = bv (β j)) (hI : β j ≠ 0 → I j = true) (hb : β j < 1000002) (ht : t < 1000000) {k : Int32 → sSt → Prop} : F_X12_isAtWork (nI j) (nI t) (sw S w) k ↔ k (b2i (atw d β t j)) (sw S w) := by
  rw [F_X12_isAtWork, ix_n (by omega) (by omega), m_in, show (sw S w).1 11 0 j = bv (β j) from by rw [sw_o (by omega)]; exact hc]
  have e : atw d β t j = (decide (2 ≤ β j) && decide (β j - 2 ≤ t) && decide (t < β j - 2 + d 0 j)) := rfl
  rcases bv_c (β j) with q | q | ⟨y, q⟩
  · rw [q] at e
    rw [e, q, bv_0]
    simp [b2i]
  · rw [q] at e
    rw [e, q, bv_1]
    have : decide (nI t < 1000000) = true := by rw [decide_eq_true_eq]; exact nI_lt (b := 1000000) ht (by omega)
    rw [this]
    simp [b2i]
  · obtain ⟨-, h0, h1, h9, -, -, -, -⟩ := hD.2 j hj (hI (by omega))
    rw [q] at e hb
    rw [e, q, bv_2]
    have e1 : decide (nI y < 0) = false := by rw [decide_eq_false_iff_not]; exact nI_pos (by omega)
    rw [e1, Bool.false_or, show y + 2 - 2 = y from rfl]
    by_cases c : y ≤ t
    · have e2 : decide (nI t < nI y) = false := by rw [decide_eq_false_iff_not]; exact nI_nlt c (by omega)
      rw [e2]
      rw [m_jobAt3, na_2, ix_n (by omega) (by omega), sw_w, h0, nI_add, nI_leI (by omega) (by omega)]
      by_cases c2 : y + d 0 j ≤ t
      · simp [c, c2, b2i, show ¬ t < y + d 0 j by omega]
      · simp [c, c2, b2i, show t < y + d 0 j by omega]
    · have e2 : decide (nI t < nI y) = true := by rw [decide_eq_true_eq]; exact nI_lt (by omega) (by omega)
      rw [e2]
      simp [c, b2i]
/-- the cells of begun tell β -/
def WCL (S : sSt) (I : Nat → Bool) (β : Nat → Nat) : Prop := ∀ j, j < 24 → S.1 11 0 j = bv (β j) ∧ (β j ≠ 0 → I j = true) ∧ β j < 1000002
theorem m_work45 (hD : WDF w d I) (hC : WCL S I β) (hj : j < 24) (hI : I j = true) (ht : t < 1000000) {k : Int32 → sSt → Prop} : ∀ r i c m, i + r = 24 → r < m → c + r ≤ 24 → (B_X12_mayBegin_45 m (nI j) (nI t) (nI (d 2 j)) (nI c) 1 (nI i) (sw S w) k ↔ k (b2i (!((List.range' i r).any (fun x => decide (β x = 1) && decide (d 2 x = d 2 j) && decide (d 3 x < d 3 j))) && decide (c + (List.range' i r).countP (fun x => decide (d 2 x = d 2 j) && atw d β t x) < d 4 (d 2 j)))) (sw S w)) := by
  obtain ⟨hlj, h0, h1, h9, hg, hg6, -, -⟩ := hD.2 j hj hI
  have hnj := hD.1.1 j hj hlj
  have hp := hD.1.2 (d 2 j) hg6
  intro r
  induction r with
  | zero =>
    intro i c m hi hm hc
    obtain ⟨m, rfl⟩ : ∃ z, m = z + 1 := ⟨m - 1, by omega⟩
    have e : i = 24 := by omega
    subst e
    simp only [B_X12_mayBegin_45_s, Bb_X12_mayBegin_45, B_X12_mayBegin_148, show (24 : Int32) ≤ nI 24 from by decide, show ¬ (1 : Int32) = 0 from by decide, true_implies, not_true_eq_false, not_false_eq_true, false_implies, and_true, true_and]
    rw [show (15 + nI (d 2 j) : Int32) = nI (15 + d 2 j) from nI_add 15 _, ix_n (by omega) (by omega), sw_w, hp.1, nI_leI (by omega) (by omega)]
    by_cases c1 : d 4 (d 2 j) ≤ c
    · simp [c1, b2i, show ¬ c < d 4 (d 2 j) by omega]
    · simp [c1, b2i, show c < d 4 (d 2 j) by omega]
  | succ r ih =>
    intro i c m hi hm hc
    obtain ⟨m, rfl⟩ : ∃ z, m = z + 1 := ⟨m - 1, by omega⟩
    have hlt : ¬ (24 : Int32) ≤ nI i := nI_ge (b := 24) (by omega) (by omega)
    obtain ⟨ci, cI, cb⟩ := hC i (by omega)
    simp only [B_X12_mayBegin_45_s, Bb_X12_mayBegin_45, B_X12_mayBegin_142, hlt, show ¬ (1 : Int32) = 0 from by decide, false_implies, not_false_eq_true, true_implies, true_and]
    rw [ix_n (by omega) (by omega), sw_o (show ¬ ((11 : Nat) = 1 ∧ (0 : Nat) = 0) by omega), ci, bv_m cb, List.range'_succ, List.any_cons, List.countP_cons]
    by_cases c0 : β i = 0
    · have ea : atw d β t i = false := by unfold atw; rw [c0]; rfl
      simp only [c0, true_implies, not_true_eq_false, false_implies, and_true, forall_eq, nI_1, ih (i + 1) c m (by omega) (by omega) (by omega)]
      rw [ea]
      simp
    · obtain ⟨hli, -, -, -, hgi, hgi6, -, -⟩ := hD.2 i (by omega) (cI c0)
      have hni := hD.1.1 i (by omega) hli
      simp only [c0, false_implies, not_false_eq_true, true_implies, true_and]
      rw [m_jobAt3, na_0, ix_n (by omega) (by omega), sw_w, hgi, nI_eq (by omega) (by omega), sw_o (show ¬ ((11 : Nat) = 1 ∧ (0 : Nat) = 0) by omega), ci, bv_w cb]
      by_cases cg : d 2 i = d 2 j
      · have add : ∀ (f : Bool), (B_X12_mayBegin_120 (fun a1 a2 a3 a4 a5 a6 S => B_X12_mayBegin_45 m a1 a2 a3 a4 a5 a6 S k) (nI j) (nI t) (nI (d 2 j)) (nI c) (nI i) (b2i f) (sw S w) k ↔ B_X12_mayBegin_45 m (nI j) (nI t) (nI (d 2 j)) (nI (c + (if atw d β t i = true then 1 else 0))) (b2i f) (nI (i + 1)) (sw S w) k) := by
          intro f
          rw [B_X12_mayBegin_120, m_isAtWork hD (by omega) ci cI cb ht]
          simp only [B_X12_mayBegin_139, B_X12_mayBegin_142, forall_eq, nI_1]
          cases atw d β t i
          · simp [b2i]
          · simp [b2i, nI_1]
        simp only [cg, true_implies, not_true_eq_false, false_implies, and_true, B_X12_mayBegin_115]
        by_cases c1 : β i = 1
        · have ea : atw d β t i = false := by unfold atw; rw [c1]; rfl
          simp only [c1, true_implies, not_true_eq_false, false_implies, true_and, m_numberOf (show i < 24 by omega), m_numberOf hj, sw_w, hni.1, hnj.1]
          rw [nI_ltI (by omega) (by omega)]
          by_cases cn : d 3 i < d 3 j
          · have := add false
            rw [show b2i false = (0 : Int32) from rfl] at this
            simp only [cn, true_implies, not_true_eq_false, false_implies, and_true, this]
            rw [ea]
            obtain ⟨m, rfl⟩ : ∃ z, m = z + 1 := ⟨m - 1, by omega⟩
            simp only [B_X12_mayBegin_45_s, Bb_X12_mayBegin_45, B_X12_mayBegin_148, true_implies, not_true_eq_false, false_implies, and_true]
            by_cases c24 : (24 : Int32) ≤ nI (i + 1) <;> simp [c24, b2i, -Int32.not_le]
          · have := add true
            rw [show b2i true = (1 : Int32) from rfl] at this
            simp only [cn, not_false_eq_true, false_implies, true_implies, true_and, this]
            rw [ea]
            simp only [Bool.false_eq_true, if_false, Nat.add_zero, ih (i + 1) c m (by omega) (by omega) (by omega)]
            simp
        · have := add true
          rw [show b2i true = (1 : Int32) from rfl] at this
          simp only [c1, not_false_eq_true, false_implies, true_implies, and_true, this]
          rw [ih (i + 1) _ m (by omega) (by omega) (by split <;> omega)]
          cases atw d β t i
          · simp
          · simp only [if_true, decide_true, Bool.and_true, decide_false, Bool.false_and, Bool.false_or]
            rw [show c + 1 + (List.range' (i + 1) r).countP (fun x => decide (d 2 x = d 2 j) && atw d β t x) = c + ((List.range' (i + 1) r).countP (fun x => decide (d 2 x = d 2 j) && atw d β t x) + 1) from by omega]
      · simp only [cg, not_false_eq_true, false_implies, true_implies, true_and, forall_eq, nI_1, ih (i + 1) c m (by omega) (by omega) (by omega)]
        simp
theorem m_mayBegin (hD : WDF w d I) (hC : WCL S I β) (hj : j < 24) (ht : t < 1000000) {k : Int32 → sSt → Prop} : F_X12_mayBegin (nI j) (nI t) (sw S w) k ↔ k (b2i (mbg d β t j)) (sw S w) := by
  obtain ⟨ci, cI, cb⟩ := hC j hj
  rw [F_X12_mayBegin, ix_n (by omega) (by omega), sw_o (show ¬ ((11 : Nat) = 1 ∧ (0 : Nat) = 0) by omega), ci, bv_w cb]
  by_cases c1 : β j = 1
  · have hI := cI (by omega)
    obtain ⟨-, -, -, -, hg, hg6, hd, -⟩ := hD.2 j hj hI
    simp only [c1, true_implies, not_true_eq_false, false_implies, true_and]
    rw [m_dueOf hD hj hI, nI_leI (by omega) (by omega)]
    by_cases c2 : d 1 j ≤ t
    · simp only [c2, true_implies, not_true_eq_false, false_implies, and_true]
      rw [m_jobAt3, na_0, ix_n (by omega) (by omega), sw_w, hg, forall_eq]
      have := m_work45 hD hC hj hI ht (k := k) 24 0 0 fuel (by omega) (fuel_gt (by omega)) (by omega)
      rw [show (0 : Int32) = nI 0 from rfl, this]
      have e : mbg d β t j = (!((List.range' 0 24).any (fun x => decide (β x = 1) && decide (d 2 x = d 2 j) && decide (d 3 x < d 3 j))) && decide (0 + (List.range' 0 24).countP (fun x => decide (d 2 x = d 2 j) && atw d β t x) < d 4 (d 2 j))) := by
        unfold mbg lsw grk
        rw [Nat.zero_add]
        simp [c1, c2]
      rw [e]
    · simp only [c2, not_false_eq_true, false_implies, true_implies, true_and]
      have e : mbg d β t j = false := by unfold mbg; simp [c2]
      rw [e]; exact Iff.rfl
  · simp only [c1, not_false_eq_true, false_implies, true_implies, and_true]
    have e : mbg d β t j = false := by unfold mbg; simp [c1]
    rw [e]; exact Iff.rfl
theorem m_nextToBegin (hD : WDF w d I) (hC : WCL S I β) (ht : t < 1000000) {k : Int32 → sSt → Prop} : F_X12_nextToBegin (nI t) (sw S w) k ↔ k (oI (nxb d β t)) (sw S w) := by
  rw [F_X12_nextToBegin]
  unfold nxb
  suffices h : ∀ r i m o, i + r = 24 → r < m → (∀ b, o = some b → b < 24 ∧ β b = 1) → (B_X12_nextToBegin_4 m (nI t) (oI o) (nI i) (sw S w) k ↔ k (oI (bst (mbg d β t) (fun a b => decide (d 3 a < d 3 b)) o i r)) (sw S w)) from h 24 0 fuel none (by omega) (fuel_gt (by omega)) (fun b hb => by cases hb)
  intro r
  induction r with
  | zero =>
    intro i m o hi hm ho
    obtain ⟨m, rfl⟩ : ∃ q, m = q + 1 := ⟨m - 1, by omega⟩
    have : i = 24 := by omega
    subst this
    simp only [B_X12_nextToBegin_4_s, Bb_X12_nextToBegin_4, bst_0]
    simp [show (24 : Int32) ≤ nI 24 from by decide]
  | succ r ih =>
    intro i m o hi hm ho
    obtain ⟨m, rfl⟩ : ∃ q, m = q + 1 := ⟨m - 1, by omega⟩
    have hi4 : i < 24 := by omega
    have h : ¬ (24 : Int32) ≤ nI i := nI_ge (b := 24) hi4 (by omega)
    simp only [B_X12_nextToBegin_4_s, Bb_X12_nextToBegin_4, B_X12_nextToBegin_37, B_X12_nextToBegin_39, h, false_implies, true_and, not_false_eq_true, true_implies, forall_eq, nI_1, m_mayBegin hD hC hi4 ht, b2i_0, Bool.not_eq_false, bst_s]
    cases c1 : mbg d β t i
    · simp only [true_implies, false_implies, and_true, Bool.false_eq_true, Bool.false_and, Bool.cond_false]
      exact ih (i + 1) m o (by omega) (by omega) ho
    · have h1 := mbg_1 c1
      have hli := (hD.2 i hi4 ((hC i hi4).2.1 (by omega))).1
      have hni := hD.1.1 i hi4 hli
      simp only [true_implies, false_implies, true_and, Bool.true_eq_false, Bool.true_and]
      cases o with
      | none =>
        simp only [btr, oI, true_implies, not_true_eq_false, false_implies, and_true, Bool.cond_true]
        exact ih (i + 1) m (some i) (by omega) (by omega) (fun b hb => by cases hb; exact ⟨hi4, h1⟩)
      | some b =>
        obtain ⟨hb, hb1⟩ := ho b rfl
        have hlb := (hD.2 b hb ((hC b hb).2.1 (by omega))).1
        have hnb := hD.1.1 b hb hlb
        simp only [btr, oI, ni_m1 (show b < 2147483648 by omega), false_implies, not_false_eq_true, true_implies, true_and, m_numberOf hi4, m_numberOf hb, sw_w, hni.1, hnb.1]
        rw [nI_leI (by omega) (by omega)]
        by_cases c3 : d 3 b ≤ d 3 i
        · simp only [c3, true_implies, not_true_eq_false, false_implies, and_true, decide_eq_false (show ¬ d 3 i < d 3 b by omega), Bool.cond_false]
          exact ih (i + 1) m (some b) (by omega) (by omega) ho
        · simp only [c3, false_implies, not_false_eq_true, true_implies, true_and, decide_eq_true (show d 3 i < d 3 b by omega), Bool.cond_true]
          exact ih (i + 1) m (some i) (by omega) (by omega) (fun b hb => by cases hb; exact ⟨hi4, h1⟩)
theorem m_workingAt (hD : WDF w d I) (hC : WCL S I β) (ht : t < 1000000) {k : Int32 → sSt → Prop} : F_X12_workingAt (nI t) (sw S w) k ↔ k (nI (wrk d β t)) (sw S w) := by
  rw [F_X12_workingAt]
  refine lp_sum0 (L := fun m c i => B_X12_workingAt_4 m (nI t) c i (sw S w) k) (K := fun c => k c (sw S w)) (atw d β t) (fuel_gt (by omega)) (fun m c => ?_) (fun m c i hi => ?_)
  · simp only [B_X12_workingAt_4_s, Bb_X12_workingAt_4]
    simp [show (24 : Int32) ≤ nI 24 from by decide]
  · have h : ¬ (24 : Int32) ≤ nI i := nI_ge (b := 24) hi (by omega)
    obtain ⟨ci, cI, cb⟩ := hC i hi
    simp only [B_X12_workingAt_4_s, Bb_X12_workingAt_4, B_X12_workingAt_25, h, false_implies, true_and, not_false_eq_true, true_implies, m_isAtWork hD hi ci cI cb ht, forall_eq, nI_1]
    cases atw d β t i <;> simp [b2i]
theorem m_timeBehind (hD : WDF w d I) (hC : WCL S I β) (ht : t < 1000000) {k : Int32 → sSt → Prop} : F_X12_timeBehind (nI t) (sw S w) k ↔ k (nI (tbh d β t 24 0 1000000)) (sw S w) := by
  rw [F_X12_timeBehind]
  suffices h : ∀ r i m a, i + r = 24 → r < m → t < a → a ≤ 1000000 → (B_X12_timeBehind_6 m (nI t) (nI a) (nI i) (sw S w) k ↔ k (nI (tbh d β t r i a)) (sw S w)) from h 24 0 fuel 1000000 (by omega) (fuel_gt (by omega)) ht (by omega)
  intro r
  induction r with
  | zero =>
    intro i m a hi hm ha ha2
    obtain ⟨m, rfl⟩ : ∃ q, m = q + 1 := ⟨m - 1, by omega⟩
    have : i = 24 := by omega
    subst this
    simp only [B_X12_timeBehind_6_s, Bb_X12_timeBehind_6]
    simp [show (24 : Int32) ≤ nI 24 from by decide, tbh]
  | succ r ih =>
    intro i m a hi hm ha ha2
    obtain ⟨m, rfl⟩ : ∃ q, m = q + 1 := ⟨m - 1, by omega⟩
    have hi4 : i < 24 := by omega
    have h : ¬ (24 : Int32) ≤ nI i := nI_ge (b := 24) hi4 (by omega)
    obtain ⟨ci, cI, cb⟩ := hC i hi4
    have mn : ∀ x y : Nat, x ≤ 2000000 → y ≤ 2000000 → (if nI x < nI y then nI x else nI y) = nI (min x y) := fun x y hx hy => by
      by_cases q : x < y
      · rw [if_pos (nI_lt q (by omega))]; congr 1; omega
      · rw [if_neg (nI_nlt (by omega) (by omega))]; congr 1; omega
    have at43 : ∀ b, t < b → b ≤ 1000000 → (B_X12_timeBehind_43 (fun a1 a2 a3 S => B_X12_timeBehind_6 m a1 a2 a3 S k) (nI t) (nI b) (nI i) (sw S w) k ↔ k (nI (tbh d β t r (i + 1) (if atw d β t i = true then min (β i - 2 + d 0 i) b else b))) (sw S w)) := by
      intro b hb hb2
      rw [B_X12_timeBehind_43, m_isAtWork hD hi4 ci cI cb ht]
      simp only [b2i_0, Bool.not_eq_false, B_X12_timeBehind_76, forall_eq, nI_1]
      cases ca : atw d β t i
      · simp only [true_implies, false_implies, and_true, Bool.false_eq_true, if_false]
        exact ih (i + 1) m b (by omega) (by omega) hb hb2
      · have hx : 2 ≤ β i ∧ t < β i - 2 + d 0 i := by
          unfold atw at ca
          simp only [Bool.and_eq_true, decide_eq_true_eq] at ca
          exact ⟨ca.1.1, ca.2⟩
        obtain ⟨-, h0, h1, h9, -, -, -, -⟩ := hD.2 i hi4 (cI (by omega))
        obtain ⟨y, ey⟩ : ∃ y, β i = y + 2 := ⟨β i - 2, by omega⟩
        simp only [true_implies, false_implies, true_and, Bool.true_eq_false, if_true]
        rw [ix_n (by omega) (by omega), m_jobAt3, na_2, ix_n (by omega) (by omega), sw_w, h0, sw_o (show ¬ ((11 : Nat) = 1 ∧ (0 : Nat) = 0) by omega), ci, ey, bv_2, nI_add, mn _ _ (by omega) (by omega), show y + 2 - 2 = y from rfl]
        rw [ey, show y + 2 - 2 = y from rfl] at hx
        exact ih (i + 1) m _ (by omega) (by omega) (by omega) (by omega)
    simp only [B_X12_timeBehind_6_s, Bb_X12_timeBehind_6, h, false_implies, true_and, not_false_eq_true, true_implies, forall_eq]
    rw [ix_n (by omega) (by omega), sw_o (show ¬ ((11 : Nat) = 1 ∧ (0 : Nat) = 0) by omega), ci, bv_w cb, tbh]
    by_cases c1 : β i = 1
    · have hI := cI (by omega)
      obtain ⟨-, -, -, -, -, -, hd, -⟩ := hD.2 i hi4 hI
      simp only [c1, true_implies, not_true_eq_false, false_implies, true_and, m_dueOf hD hi4 hI]
      rw [nI_leI (by omega) (by omega)]
      have a43 := fun b q1 q2 => at43 b q1 q2
      rw [c1] at a43
      by_cases c2 : d 1 i ≤ t
      · simp only [c2, true_implies, not_true_eq_false, false_implies, and_true, show ¬ t < d 1 i by omega, and_false, if_false]
        exact a43 a ha ha2
      · simp only [c2, not_false_eq_true, true_implies, false_implies, true_and, show t < d 1 i by omega, and_self, if_true]
        rw [mn _ _ (by omega) (by omega)]
        exact a43 _ (by omega) (by omega)
    · simp only [c1, not_false_eq_true, true_implies, false_implies, and_true, false_and, if_false]
      exact at43 a ha ha2
theorem WCL.up (hC : WCL S I β) (hj : j < 24) (hI : I j = true) (ht : t < 1000000) (hS : S' = uI S 11 0 j (nI t)) : WCL S' I (bup β j t) := by
  intro i hi
  obtain ⟨a, b, c⟩ := hC i hi
  unfold bup
  by_cases e : i = j
  · rw [e, if_pos rfl, hS, uI_at, bv_2]; exact ⟨rfl, fun _ => hI, by omega⟩
  · rw [if_neg e, hS, uI_nc (by omega)]; exact ⟨a, b, c⟩
theorem m_begins (hD : WDF w d I) (ht : t < 1000000) {kk65 : Int32 → Int32 → Int32 → sSt → Prop} {k : Int32 → sSt → Prop} {h : Nat} (hh : h ≤ 4) (h5 : d 5 0 = h) : ∀ r m (S : sSt) (β : Nat → Nat) (l : Nat), wtg β ≤ r → r < m → l ≤ 2000000 → WCL S I β → (∀ S', WCL S' I (bgn d t r β l).1 → (∀ a b, ¬ (a = 11 ∧ b = 0) → S'.1 a b = S.1 a b) → (bgn d t r β l).2 ≤ 2000000 → B_X12_worksAll_132 kk65 (nI h) (nI (bgn d t r β l).2) (nI t) (sw S' w) k) → B_X12_worksAll_79 kk65 m (nI h) (nI l) (nI t) (oI (nxb d β t)) (sw S w) k := by
  intro r
  induction r with
  | zero =>
    intro m S β l hw hm hl hC hk
    obtain ⟨m, rfl⟩ : ∃ z, m = z + 1 := ⟨m - 1, by omega⟩
    rw [nxb_0 (wtg_0 (Nat.le_zero.mp hw))]
    simp only [B_X12_worksAll_79_s, Bb_X12_worksAll_79, oI]
    exact ⟨fun _ => hk S hC (fun _ _ _ => rfl) hl, fun q => absurd trivial q⟩
  | succ r ih =>
    intro m S β l hw hm hl hC hk
    obtain ⟨m, rfl⟩ : ∃ z, m = z + 1 := ⟨m - 1, by omega⟩
    rw [bgn] at hk
    cases c : nxb d β t with
    | none =>
      rw [c] at hk
      simp only [B_X12_worksAll_79_s, Bb_X12_worksAll_79, oI]
      exact ⟨fun _ => hk S hC (fun _ _ _ => rfl) hl, fun q => absurd trivial q⟩
    | some j =>
      rw [c] at hk
      obtain ⟨hj1, hj⟩ := nxb_is c
      have h1 := mbg_1 hj1
      have hI := (hC j hj).2.1 (by omega)
      obtain ⟨-, h0, h01, h09, -, -, -, -⟩ := hD.2 j hj hI
      have hwk : wrk d β t ≤ 24 := by
        have := List.countP_le_length (p := atw d β t) (l := List.range' 0 24)
        rw [List.length_range'] at this
        exact this
      simp only [B_X12_worksAll_79_s, Bb_X12_worksAll_79, oI]
      refine ⟨fun q => absurd q (ni_m1 (by omega)), fun _ => ?_⟩
      rw [m_workingAt hD hC ht, nI_leI (by omega) (by omega)]
      refine ⟨fun q => ?_, fun q => ?_⟩
      · have hk' := hk
        simp only [h5, q, if_true] at hk'
        exact hk' S hC (fun _ _ _ => rfl) hl
      · simp only [h5, q, if_false] at hk
        rw [ix_n (by omega) (by omega)]
        rintro S14 e14
        rw [sw_c (by omega)] at e14
        rw [e14, m_jobAt3, na_2, ix_n (by omega) (by omega), sw_w, h0, nI_add]
        have eM : (if nI l < nI (t + d 0 j) then nI (t + d 0 j) else nI l) = nI (max l (t + d 0 j)) := by
          by_cases q : l < t + d 0 j
          · rw [if_pos (nI_lt q (by omega))]; congr 1; omega
          · rw [if_neg (nI_nlt (by omega) (by omega))]; congr 1; omega
        rw [eM, forall_eq]
        have hC' := hC.up hj hI ht rfl
        rw [m_nextToBegin hD hC' ht]
        refine ih m _ _ _ ?_ (by omega) (by omega) hC' (fun S' g1 g2 g3 => hk S' g1 (fun a b z => by rw [g2 a b z, uI_other (by omega)]) g3)
        have := wtg_up (t := t) hj h1
        omega
theorem m_sim (hD : WDF w d I) {k : Int32 → sSt → Prop} {h : Nat} (hh : h ≤ 4) (h5 : d 5 0 = h) : ∀ N t m (S : sSt) (β : Nat → Nat) (l : Nat), t + N = 1000000 → N < m → l ≤ 2000000 → btm β t → WCL S I β → (∀ S', WCL S' I (sim d N t β l).1 → (∀ a b, ¬ (a = 11 ∧ b = 0) → S'.1 a b = S.1 a b) → k (nI (sim d N t β l).2) (sw S' w)) → B_X12_worksAll_65 m (nI h) (nI l) (nI t) (sw S w) k := by
  intro N
  induction N using Nat.strongRecOn with
  | ind N ih =>
    intro t m S β l hN hm hl hb hC hk
    obtain ⟨m, rfl⟩ : ∃ z, m = z + 1 := ⟨m - 1, by omega⟩
    simp only [B_X12_worksAll_65_s, Bb_X12_worksAll_65]
    by_cases c0 : N = 0
    · subst c0
      have e : t = 1000000 := by omega
      subst e
      exact ⟨fun _ => hk S hC (fun _ _ _ => rfl), fun q => absurd (show (1000000 : Int32) ≤ nI 1000000 from by decide) q⟩
    · obtain ⟨M, rfl⟩ : ∃ M, N = M + 1 := ⟨N - 1, by omega⟩
      have ht : t < 1000000 := by omega
      refine ⟨fun q => absurd q (nI_ge (b := 1000000) ht (by omega)), fun _ => ?_⟩
      rw [m_nextToBegin hD hC ht]
      refine m_begins hD ht hh h5 24 fuel S β l wtg_le (fuel_gt (by omega)) hl hC (fun S1 g1 g2 g3 => ?_)
      rw [B_X12_worksAll_132, m_timeBehind hD g1 ht]
      have hfp := bgn_fp (d := d) (t := t) 24 β l wtg_le
      have hbt := bt_bgn (d := d) 24 l hb
      obtain ⟨z1, z2, -⟩ := tbh_ok (d := d) (β := (bgn d t 24 β l).1) (t := t) 24 0 1000000 ht
      have hj := sim_jump (M := 1000000) (l := (bgn d t 24 β l).2) hfp hbt ht
      rw [sim, show M = 1000000 - (t + 1) from by omega, hj] at hk
      refine ih (1000000 - tbh d (bgn d t 24 β l).1 t 24 0 1000000) (by omega) _ m S1 _ _ (by omega) (by omega) g3 (fun i hi => by have := hbt i hi; omega) g1 (fun S' q1 q2 => hk S' q1 (fun a b z => (q2 a b z).trans (g2 a b z)))
end CS
end PU59
