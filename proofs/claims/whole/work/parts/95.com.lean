section PU15
/-! COMMITTED: the world's side and the model's -/
def wc1 (w : Wd) (j : Nat) : Wd := wtl (wfr (va_up (va_cpy w w (21 + 47 * j + 25) (21 + 47 * j + 3) 22) (21 + 47 * j + 1) 1) j) j
section WC
variable {w w' : Wd} {ns np cm nl : Nat} {π : List Nat} {j : Nat}
theorem wtl_out {x : Nat} (h : x < 1289 ∨ 1589 ≤ x) (h14 : x ≠ 14) : wtl w j x = w x := by
  unfold wtl wrow
  rw [up_ne h14, up_ne (by omega), up_ne (by omega), up_ne (by omega), up_ne (by omega), up_ne (by omega)]
  exact if_neg (by omega)
theorem wtl_14 : wtl w j 14 = if w 14 + 1 < 60 then w 14 + 1 else 60 := by unfold wtl; rw [up_eq]
theorem wtl_log {x : Nat} (h : 1294 ≤ x) (h2 : x < 1589) : wtl w j x = w (x - 5) := by
  unfold wtl wrow
  rw [up_ne (by omega), up_ne (by omega), up_ne (by omega), up_ne (by omega), up_ne (by omega), up_ne (by omega)]
  exact if_pos (by omega)
theorem wsh_out {x : Nat} (h : x < 1294) : wsh w x = w x := if_neg (by omega)
theorem wtl_row (hj : j < 24) : wtl w j 1289 = w 3 ∧ wtl w j 1290 = num w j ∧ wtl w j 1291 = w (21 + 47 * j + 3 + 3) ∧ wtl w j 1292 = w (21 + 47 * j + 3 + 8) ∧ wtl w j 1293 = w (21 + 47 * j + 3 + 9) := by
  unfold wtl wrow
  refine ⟨?_, ?_, ?_, ?_, ?_⟩
  · rw [up_ne (by omega), up_ne (by omega), up_ne (by omega), up_ne (by omega), up_ne (by omega), up_eq, wsh_out (by omega)]
  · rw [up_ne (by omega), up_ne (by omega), up_ne (by omega), up_ne (by omega), up_eq]; unfold num; rw [wsh_out (by omega)]
  · rw [up_ne (by omega), up_ne (by omega), up_ne (by omega), up_eq, wsh_out (by omega)]
  · rw [up_ne (by omega), up_ne (by omega), up_eq, wsh_out (by omega)]
  · rw [up_ne (by omega), up_eq, wsh_out (by omega)]
/-- the job is in the table, and locked no more -/
def wst (w : Wd) (j : Nat) : Wd := va_up (va_up (va_cpy w w (21 + 47 * j + 25) (21 + 47 * j + 3) 22) (21 + 47 * j + 1) 1) (21 + 47 * j + 2) (-1)
theorem wc1_is (hl : lie w j = true) : wc1 w j = wtl (wst w j) j := by
  unfold wc1 wst wfr
  have e : isin (va_up (va_cpy w w (21 + 47 * j + 25) (21 + 47 * j + 3) 22) (21 + 47 * j + 1) 1) j = true := by
    unfold isin num
    rw [up_eq, up_ne (by omega), cp_out (by omega)]
    have := lie_n hl
    unfold num at this
    simp [this]
  rw [e]; rfl
theorem wst_out {x : Nat} (h : x < 21 + 47 * j + 1 ∨ 21 + 47 * j + 25 ≤ x) : wst w j x = w x := by
  unfold wst
  rw [up_ne (by omega), up_ne (by omega), cp_out (by omega)]
theorem wst_in : wst w j (21 + 47 * j + 1) = 1 := by unfold wst; rw [up_ne (by omega), up_eq]
theorem wst_lk : lkr (wst w j) j = -1 := by unfold wst lkr; rw [up_eq]
theorem wst_tab {f : Nat} (hf : f < 22) : wst w j (21 + 47 * j + 3 + f) = w (21 + 47 * j + 25 + f) := by
  unfold wst
  rw [up_ne (by omega), up_ne (by omega), cp_in (by omega) (by omega)]
  congr 1; omega
theorem wst_num {x : Nat} : num (wst w j) x = num w x := by unfold num; exact wst_out (by omega)
theorem wc1_num (hl : lie w j = true) {x : Nat} (hx : x < 24) : num (wc1 w j) x = num w x := by
  rw [wc1_is hl]
  have : num (wtl (wst w j) j) x = num (wst w j) x := wtl_out (by omega) (by omega)
  rw [this, wst_num]
theorem wc1_lkr (hl : lie w j = true) {x : Nat} (hx : x < 24) : lkr (wc1 w j) x = if x = j then -1 else lkr w x := by
  rw [wc1_is hl]
  have : lkr (wtl (wst w j) j) x = lkr (wst w j) x := wtl_out (by omega) (by omega)
  rw [this]
  by_cases c : x = j
  · rw [if_pos c, c, wst_lk]
  · rw [if_neg c]; exact wst_out (by omega)
theorem wc1_out (hl : lie w j = true) {x : Nat} (h : x < 21 + 47 * j + 1 ∨ 21 + 47 * j + 25 ≤ x) (h2 : x < 1289 ∨ 1589 ≤ x) (h14 : x ≠ 14) : wc1 w j x = w x := by
  rw [wc1_is hl, wtl_out h2 h14, wst_out h]
theorem wc1_ord (hO : zOrd w π) (hl : lie w j = true) : zOrd (wc1 w j) π := hO.c (fun x hx => wc1_num hl hx)
theorem VOK.stored {p p' : Nat} (h : VOK w p) (hw : ∀ f, f < 22 → w' (p' + f) = w (p + f)) : VOK w' p' := h.c hw
def nlx (nl : Nat) : Nat := if nl + 1 < 60 then nl + 1 else 60
theorem WF.wc1 (h : WF w ns np cm nl) (hj : j < 24) (hl : lie w j = true) (hk : lkr w j ≠ -1) : WF (wc1 w j) ns np cm (nlx nl) := by
  have h1 : WF (wst w j) ns np cm nl := by
    refine h.slot (fun x hx => wst_out (by omega)) hj ?_ (Or.inl wst_num)
    rcases h.job j hj with q | ⟨q0, q1, q2, q3, q4, q5⟩
    · exact absurd q (lie_n hl)
    · refine Or.inr ⟨by rw [wst_num]; exact q0, Or.inr wst_in, Or.inl wst_in, Or.inl wst_lk, fun _ => (q5 hk).c (fun f hf => wst_tab hf), fun c => absurd wst_lk c⟩
  rw [wc1_is hl]
  have hw : ∀ x, x < 1289 → x ≠ 14 → wtl (wst w j) j x = wst w j x := fun x hx h14 => wtl_out (by omega) h14
  refine ⟨by rw [hw _ (by omega) (by omega)]; exact h1.edt, ⟨h1.hns.1, by rw [hw _ (by omega) (by omega)]; exact h1.hns.2⟩, ⟨h1.hnp.1, by rw [hw _ (by omega) (by omega)]; exact h1.hnp.2⟩, ⟨h1.hcm.1, by rw [hw _ (by omega) (by omega)]; exact h1.hcm.2⟩, ⟨by unfold nlx; split <;> omega, ?_⟩, fun i hi => (h1.job i hi).c (fun x _ _ => hw x (by omega) (by omega)), fun a b ha hb hla he => ?_, fun s hs => (h1.ses s hs).c (fun x _ _ => hw x (by have := h.hns.1; omega) (by omega)), fun p hp => (h1.pln p hp).c (fun x _ _ => hw x (by have := h.hnp.1; omega) (by omega)), ?_, ?_, ?_, ?_, ?_, ?_, fun g hg => ?_⟩
  · rw [wtl_14, h1.hnl.2, nI_1]
    have := h1.hnl.1
    unfold nlx
    rw [show (60 : Int32) = nI 60 from rfl]
    by_cases c : nl + 1 < 60
    · rw [if_pos ((nI_ltI (by omega) (by omega)).mpr c), if_pos c]
    · rw [if_neg (fun q => c ((nI_ltI (by omega) (by omega)).mp q)), if_neg c]
  · have en : ∀ i, i < 24 → num (wtl (wst w j) j) i = num (wst w j) i := fun i hi => hw _ (by omega) (by omega)
    rw [en a ha, en b hb] at he
    refine h1.one a b ha hb ?_ he
    unfold lie at *; rw [← en a ha]; exact hla
  · rw [hw _ (by omega) (by omega)]; exact h1.mono
  · rw [hw _ (by omega) (by omega)]; exact h1.wall
  · rw [hw _ (by omega) (by omega)]; exact h1.base
  · rw [hw _ (by omega) (by omega)]; exact h1.cap
  · rw [hw _ (by omega) (by omega)]; exact h1.jit
  · rw [hw _ (by omega) (by omega)]; exact h1.lim
  · rw [hw _ (by omega) (by omega)]; exact h1.par g hg
/-- all jobs that a session locked, one behind another: the world then, how many -/
def wcs (s : Int32) : List Nat → Wd → Wd × Nat
  | [], w => (w, 0)
  | j :: l, w => if lkr w j = s then ((wcs s l (wc1 w j)).1, (wcs s l (wc1 w j)).2 + 1) else wcs s l w
def wcls (w : Wd) (s : Nat) : Wd := va_up (va_up w (1149 + 27 * s + 2) 0) (1149 + 27 * s + 3) 0
/-- the job of the least number above one -/
def bhd (w : Wd) (n : Int32) : Option Nat := bst (fun j => !decide (num w j ≤ n)) (fun a b => !decide (num w b ≤ num w a)) none 0 24
end WC
section BH
variable {w : Wd} {π : List Nat}
theorem bhd_Bst (hO : zOrd w π) {n : Int32} (hn : -1 ≤ n) : Bst (fun j => !decide (num w j ≤ n)) (fun a b => !decide (num w b ≤ num w a)) (bhd w n) 24 := by
  have hl : ∀ j, j < 24 → (!decide (num w j ≤ n)) = true → lie w j = true := fun j hj h => by
    unfold lie
    simp only [Bool.not_eq_true', decide_eq_false_iff_not] at h
    simp only [ne_eq, decide_eq_true_eq]
    intro q; rw [q] at h; exact h hn
  have h := bst_Bst (P := fun j => !decide (num w j ≤ n)) (A := fun a b => !decide (num w b ≤ num w a)) (n := 24) (fun a b c _ _ _ _ _ _ h1 h2 => ?_) (fun a b ha hb pa pb hne => ?_) 24 0 none (by omega) (fun j hj => absurd hj (Nat.not_lt_zero j))
  · unfold bhd; exact h
  · simp only [Bool.not_eq_true', decide_eq_false_iff_not, Int32.not_le] at h1 h2 ⊢
    exact Int32.lt_trans h1 h2
  · simp only [Bool.not_eq_true', decide_eq_false_iff_not, Int32.not_le]
    obtain ⟨i, hi, hi'⟩ := hO.pos ha (hl a ha pa)
    obtain ⟨i2, hi2, hi2'⟩ := hO.pos hb (hl b hb pb)
    rw [← hi', ← hi2']
    rcases Nat.lt_trichotomy i i2 with q | q | q
    · exact Or.inl (hO.sorted q hi2)
    · rw [q] at hi'; exact absurd (hi'.symm.trans hi2') hne
    · exact Or.inr (hO.sorted q hi)
theorem bhd_one (hO : zOrd w π) {n : Int32} (hn : -1 ≤ n) {o : Option Nat} (h : Bst (fun j => !decide (num w j ≤ n)) (fun a b => !decide (num w b ≤ num w a)) o 24) : bhd w n = o := by
  refine Bst.one (fun a b _ _ _ _ h1 h2 => ?_) (bhd_Bst hO hn) h
  simp only [Bool.not_eq_true', decide_eq_false_iff_not, Int32.not_le] at h1 h2
  exact Int32.lt_irrefl (Int32.lt_trans h1 h2)
def nth (π : List Nat) (i : Nat) : Option Nat := if i < π.length then some (pl π i) else none
theorem bhd_nth (hO : zOrd w π) {n : Int32} (hn : -1 ≤ n) {i : Nat} (h1 : ∀ x, x < i → x < π.length → num w (pl π x) ≤ n) (h2 : i < π.length → n < num w (pl π i)) (hi : i ≤ π.length) : bhd w n = nth π i := by
  refine bhd_one hO hn ?_
  have hl : ∀ j, j < 24 → (!decide (num w j ≤ n)) = true → ∃ x, i ≤ x ∧ x < π.length ∧ pl π x = j := fun j hj h => by
    simp only [Bool.not_eq_true', decide_eq_false_iff_not] at h
    have : lie w j = true := by
      unfold lie
      simp only [ne_eq, decide_eq_true_eq]
      intro q; rw [q] at h; exact h hn
    obtain ⟨x, hx, hx'⟩ := hO.pos hj this
    refine ⟨x, ?_, hx, hx'⟩
    by_cases c : x < i
    · exact absurd (h1 x c hx) (by rw [hx']; exact h)
    · omega
  unfold nth
  by_cases c : i < π.length
  · rw [if_pos c]
    refine ⟨hO.at c, by simpa [Int32.not_le] using h2 c, fun j hj hp hne => ?_⟩
    obtain ⟨x, x1, x2, x3⟩ := hl j hj hp
    simp only [Bool.not_eq_true', decide_eq_false_iff_not, Int32.not_le]
    rw [← x3]
    refine hO.sorted ?_ x2
    by_cases e : x = i
    · rw [e] at x3; exact absurd x3.symm hne
    · omega
  · rw [if_neg c]
    intro j hj
    cases hp : !decide (num w j ≤ n)
    · exact hp
    · obtain ⟨x, x1, x2, x3⟩ := hl j hj hp
      omega
theorem num_ge (hO : zOrd w π) {ns np cm nl : Nat} (hW : WF w ns np cm nl) {i : Nat} (hi : i < π.length) : -1 ≤ num w (pl π i) ∧ -1 < num w (pl π i) := by
  obtain ⟨n, h1, h2⟩ := hW.nu (hO.at hi) (hO.la hi)
  have hc := hW.hcm.1
  have : (-1 : Int32) < num w (pl π i) := by
    rw [h2, Int32.lt_iff_toInt_lt, nI_toInt (by omega), show (-1 : Int32).toInt = -1 from rfl]; omega
  exact ⟨Int32.le_of_lt this, this⟩
theorem bhd_0 (hO : zOrd w π) {ns np cm nl : Nat} (hW : WF w ns np cm nl) : bhd w (-1) = nth π 0 := bhd_nth hO (by decide) (fun x hx => absurd hx (Nat.not_lt_zero x)) (fun h => (num_ge hO hW h).2) (Nat.zero_le _)
theorem bhd_s (hO : zOrd w π) {ns np cm nl : Nat} (hW : WF w ns np cm nl) {i : Nat} (hi : i < π.length) : bhd w (num w (pl π i)) = nth π (i + 1) := by
  refine bhd_nth hO (num_ge hO hW hi).1 (fun x hx hx2 => ?_) (fun h => hO.sorted (by omega) h) (by omega)
  by_cases c : x = i
  · rw [c]; exact Int32.le_refl _
  · exact Int32.le_of_lt (hO.sorted (by omega) hi)
theorem m_behind {S : sSt} {n : Int32} {k : Int32 → sSt → Prop} : F_X12_behindNumber n S k ↔ k (oI (bhd (S.1 1 0) n)) S := by
  rw [F_X12_behindNumber]
  unfold bhd
  suffices h : ∀ r i m o, i + r = 24 → r < m → (∀ b, o = some b → b < 24) → (B_X12_behindNumber_4 m n (oI o) (nI i) S k ↔ k (oI (bst (fun j => !decide (num (S.1 1 0) j ≤ n)) (fun a b => !decide (num (S.1 1 0) b ≤ num (S.1 1 0) a)) o i r)) S) from h 24 0 fuel none (by omega) (fuel_gt (by omega)) (fun b hb => by cases hb)
  intro r
  induction r with
  | zero =>
    intro i m o hi hm ho
    obtain ⟨m, rfl⟩ : ∃ q, m = q + 1 := ⟨m - 1, by omega⟩
    have : i = 24 := by omega
    subst this
    simp only [B_X12_behindNumber_4_s, Bb_X12_behindNumber_4, bst_0]
    simp [show (24 : Int32) ≤ nI 24 from by decide]
  | succ r ih =>
    intro i m o hi hm ho
    obtain ⟨m, rfl⟩ : ∃ q, m = q + 1 := ⟨m - 1, by omega⟩
    have hi4 : i < 24 := by omega
    have h : ¬ (24 : Int32) ≤ nI i := nI_ge (b := 24) hi4 (by omega)
    simp only [B_X12_behindNumber_4_s, Bb_X12_behindNumber_4, B_X12_behindNumber_39, B_X12_behindNumber_37, h, false_implies, true_and, not_false_eq_true, true_implies, forall_eq, nI_1, m_numberOf hi4, bst_s]
    by_cases c1 : num (S.1 1 0) i ≤ n
    · simp only [c1, true_implies, not_true_eq_false, false_implies, and_true, decide_true, Bool.not_true, Bool.false_and, Bool.cond_false]
      exact ih (i + 1) m o (by omega) (by omega) ho
    · simp only [c1, not_false_eq_true, true_implies, false_implies, true_and, decide_false, Bool.not_false, Bool.true_and]
      cases o with
      | none =>
        simp only [btr, oI, true_implies, not_true_eq_false, false_implies, and_true, Bool.cond_true]
        exact ih (i + 1) m (some i) (by omega) (by omega) (fun b hb => by cases hb; exact hi4)
      | some b =>
        have hb := ho b rfl
        simp only [btr, oI, ni_m1 (show b < 2147483648 by omega), false_implies, not_false_eq_true, true_implies, true_and, m_numberOf hb]
        by_cases c3 : num (S.1 1 0) b ≤ num (S.1 1 0) i
        · simp only [c3, true_implies, not_true_eq_false, false_implies, and_true, decide_true, Bool.not_true, Bool.cond_false]
          exact ih (i + 1) m (some b) (by omega) (by omega) ho
        · simp only [c3, not_false_eq_true, true_implies, false_implies, true_and, decide_false, Bool.not_false, Bool.cond_true]
          exact ih (i + 1) m (some i) (by omega) (by omega) (fun b hb => by cases hb; exact hi4)
theorem drop_pl {i : Nat} (hi : i < π.length) : π.drop i = pl π i :: π.drop (i + 1) := by
  rw [List.drop_eq_getElem_cons hi]
  congr 1
  unfold pl
  rw [List.getD_eq_getElem?_getD, List.getElem?_eq_getElem hi]; rfl
theorem oI_nth {i : Nat} (hi : i < π.length) : oI (nth π i) = nI (pl π i) := by unfold nth; rw [if_pos hi]; rfl
theorem m_isCommitted {S : sSt} {ns np cm nl : Nat} (hO : zOrd w π) (hW : WF w ns np cm nl) {s : Nat} (hs : s < ns) {k : Int32 → sSt → Prop} (hk : k (nI (wcs (nI s) π w).2) (sw S (wcls (wcs (nI s) π w).1 s))) : F_X12_isCommitted (nI s) (sw S w) k := by
  have hn := hW.hns.1
  have hlen := hO.len
  rw [F_X12_isCommitted, m_behind, sw_w, bhd_0 hO hW]
  suffices h : ∀ r i m c w nl (k : Int32 → sSt → Prop), i + r = π.length → r < m → zOrd w π → WF w ns np cm nl → k (nI (c + (wcs (nI s) (π.drop i) w).2)) (sw S (wcls (wcs (nI s) (π.drop i) w).1 s)) → B_X12_isCommitted_8 m (nI s) (nI c) (oI (nth π i)) (sw S w) k from
    h π.length 0 fuel 0 w nl k (by omega) (fuel_gt (by omega)) hO hW (by rw [Nat.zero_add]; exact hk)
  clear hk hO hW
  intro r
  induction r with
  | zero =>
    intro i m c w nl k hi hm hO hW hk
    obtain ⟨m, rfl⟩ : ∃ q, m = q + 1 := ⟨m - 1, by omega⟩
    have e : nth π i = none := by unfold nth; rw [if_neg (by omega)]
    have e2 : π.drop i = [] := List.drop_eq_nil_of_le (by omega)
    rw [e2] at hk
    simp only [B_X12_isCommitted_8_s, Bb_X12_isCommitted_8, e, oI, true_implies, not_true_eq_false, false_implies, and_true, m_sessAt2, m_sessAt3]
    rw [ix_n (by omega) (by omega)]
    simp only [forall_eq, sw_i]
    rw [ix_n (by omega) (by omega)]
    exact hk
  | succ r ih =>
    intro i m c w nl k hi hm hO hW hk
    obtain ⟨m, rfl⟩ : ∃ q, m = q + 1 := ⟨m - 1, by omega⟩
    have hil : i < π.length := by omega
    have hj4 := hO.at hil
    have hl := hO.la hil
    rw [drop_pl hil] at hk
    simp only [B_X12_isCommitted_8_s, Bb_X12_isCommitted_8, B_X12_isCommitted_66, oI_nth hil, ni_m1 (show pl π i < 2147483648 by omega), false_implies, not_false_eq_true, true_implies, true_and, m_lockerOf hj4, sw_w, m_jobAt25, m_jobAt3, m_jobAt1]
    refine ⟨fun q => ?_, fun q => ?_⟩
    · rw [m_copies22 (by omega) (by omega) (by omega)]
      rw [ix_n (by omega) (by omega)]
      simp only [forall_eq, sw_i]
      rw [m_frees hj4, m_isTold hj4, ← wc1, m_numberOf hj4, sw_w, wc1_num hl hj4, m_behind, sw_w]
      have hO' := wc1_ord hO hl
      have hW' := hW.wc1 hj4 hl (by rw [q]; exact ni_m1 (by omega))
      have eb : bhd (wc1 w (pl π i)) (num w (pl π i)) = nth π (i + 1) := by
        rw [← wc1_num hl hj4]; exact bhd_s hO' hW' hil
      rw [eb, nI_1]
      refine ih (i + 1) m (c + 1) _ _ k (by omega) (by omega) hO' hW' ?_
      rw [wcs, if_pos q] at hk
      rw [show c + 1 + (wcs (nI s) (π.drop (i + 1)) (wc1 w (pl π i))).2 = c + ((wcs (nI s) (π.drop (i + 1)) (wc1 w (pl π i))).2 + 1) from by omega]
      exact hk
    · rw [m_numberOf hj4, sw_w, m_behind, sw_w, bhd_s hO hW hil]
      refine ih (i + 1) m c _ _ k (by omega) (by omega) hO hW ?_
      rw [wcs, if_neg q] at hk
      exact hk
end BH
end PU15
