section PU28
/-! CALLS THAT COUNT: count, session -/
section XN
variable {S : sSt} {t : Nat} {w : Wd} {π : List Nat} {ns np cm nl : Nat}
theorem x_storedJobs (h : zB S t w π ns np cm nl) {k : Int32 → sSt → Prop} : F_X6_storedJobs t S k ↔ k (nI ((List.range' 0 24).countP (isin w))) S := by
  have hlen := h.2.1.len
  have e : (List.range' 0 24).countP (isin w) = (List.range' 0 π.length).countP (fun i => isin w (pl π i)) := by
    rw [cnt_pl π (fun o => isin w o), h.2.1.cnt]
    refine List.countP_congr fun o _ => ?_
    constructor
    · intro q; rw [isin_lie q, q]; rfl
    · intro q; simp only [Bool.and_eq_true] at q; exact q.2
  rw [F_X6_storedJobs, e]
  refine lp_sum0 (L := fun m c i => B_X6_storedJobs_4 m t c i S k) (K := fun c => k c S) _ (fuel_gt (by omega)) (fun m c => ?_) (fun m c i hi => ?_)
  · simp only [B_X6_storedJobs_4_s, Bb_X6_storedJobs_4, h.1.size]
    simp [nI_leI (show π.length < 2147483648 by omega) (show π.length < 2147483648 by omega)]
  · have hlt : ¬ nI π.length ≤ nI i := nI_ge hi (by omega)
    simp only [B_X6_storedJobs_4_s, Bb_X6_storedJobs_4, B_X6_storedJobs_30, h.1.size, hlt, false_implies, true_and, not_false_eq_true, true_implies]
    rw [ix_n (by omega) (by omega), x_sto h.1 hi]
    simp only [forall_eq, nI_1]
    have q := sto_is h.2.2.1 (h.2.1.at hi) (h.2.1.la hi)
    cases c : isin w (pl π i)
    · have := q.mpr c; simp [this, b2i]
    · have : ¬ w (21 + 47 * pl π i + 1) = 0 := fun z => by rw [q.mp z] at c; exact absurd c (by decide)
      simp [this, b2i]
def lckd (w : Wd) (j : Nat) : Bool := lie w j && decide (lkr w j ≠ -1)
theorem x_lockedJobs (h : zB S t w π ns np cm nl) {k : Int32 → sSt → Prop} : F_X6_lockedJobs t S k ↔ k (nI ((List.range' 0 24).countP (lckd w))) S := by
  have hlen := h.2.1.len
  have e : (List.range' 0 24).countP (lckd w) = (List.range' 0 π.length).countP (fun i => decide (lkr w (pl π i) ≠ -1)) := by
    rw [cnt_pl π (fun o => decide (lkr w o ≠ -1)), h.2.1.cnt]; rfl
  rw [F_X6_lockedJobs, e]
  refine lp_sum0 (L := fun m c i => B_X6_lockedJobs_4 m t c i S k) (K := fun c => k c S) _ (fuel_gt (by omega)) (fun m c => ?_) (fun m c i hi => ?_)
  · simp only [B_X6_lockedJobs_4_s, Bb_X6_lockedJobs_4, h.1.size]
    simp [nI_leI (show π.length < 2147483648 by omega) (show π.length < 2147483648 by omega)]
  · have hlt : ¬ nI π.length ≤ nI i := nI_ge hi (by omega)
    simp only [B_X6_lockedJobs_4_s, Bb_X6_lockedJobs_4, B_X6_lockedJobs_31, h.1.size, hlt, false_implies, true_and, not_false_eq_true, true_implies]
    rw [ix_n (by omega) (by omega), x_lkr h.1 hi]
    simp only [forall_eq, nI_1]
    by_cases c : lkr w (pl π i) = -1 <;> simp [c, b2i]
def lbs (w : Wd) (s : Int32) (j : Nat) : Bool := lie w j && decide (lkr w j = s)
theorem x_lockedBy (h : zB S t w π ns np cm nl) {s : Nat} (hs : s < 4) {k : Int32 → sSt → Prop} : F_X6_lockedBy t (nI s) S k ↔ k (nI ((List.range' 0 24).countP (lbs w (nI s)))) S := by
  have hlen := h.2.1.len
  have e : (List.range' 0 24).countP (lbs w (nI s)) = (List.range' 0 π.length).countP (fun i => mine w (pl π i) (nI s)) := by
    rw [cnt_pl π (fun o => mine w o (nI s)), h.2.1.cnt]
    refine List.countP_congr fun o _ => ?_
    unfold lbs mine
    simp [ni_m1 (show s < 2147483648 by omega)]
  rw [F_X6_lockedBy, e]
  refine lp_sum0 (L := fun m c i => B_X6_lockedBy_4 m t (nI s) c i S k) (K := fun c => k c S) _ (fuel_gt (by omega)) (fun m c => ?_) (fun m c i hi => ?_)
  · simp only [B_X6_lockedBy_4_s, Bb_X6_lockedBy_4, h.1.size]
    simp [nI_leI (show π.length < 2147483648 by omega) (show π.length < 2147483648 by omega)]
  · have hlt : ¬ nI π.length ≤ nI i := nI_ge hi (by omega)
    simp only [B_X6_lockedBy_4_s, Bb_X6_lockedBy_4, B_X6_lockedBy_31, h.1.size, hlt, false_implies, true_and, not_false_eq_true, true_implies]
    rw [ix_n (by omega) (by omega), x_isLockedBy h.1 hi]
    simp only [forall_eq, nI_1, b2i_0, Bool.not_eq_false]
    cases mine w (pl π i) (nI s) <;> simp [b2i]
theorem x_openT (h : zB S t w π ns np cm nl) {k : Int32 → sSt → Prop} : F_X6_openTransactions t S k ↔ k (nI ((List.range' 0 ns).countP (opn w))) S := by
  have hn := h.2.2.1.hns.1
  have e7 : S.1 13 t 7 = nI ns := (h.1.sca.1 0 (by omega)).trans h.2.2.1.hns.2
  rw [F_X6_openTransactions]
  refine lp_sum0 (L := fun m c i => B_X6_openTransactions_4 m t c i S k) (K := fun c => k c S) _ (fuel_gt (by omega)) (fun m c => ?_) (fun m c i hi => ?_)
  · simp only [B_X6_openTransactions_4_s, Bb_X6_openTransactions_4, e7]
    simp [nI_leI (show ns < 2147483648 by omega) (show ns < 2147483648 by omega)]
  · have hlt : ¬ nI ns ≤ nI i := nI_ge hi (by omega)
    simp only [B_X6_openTransactions_4_s, Bb_X6_openTransactions_4, B_X6_openTransactions_30, e7, hlt, false_implies, true_and, not_false_eq_true, true_implies]
    rw [ix_n (by omega) (by omega), show S.1 24 (4 * t + i) 3 = w (1149 + 27 * i + 2) from (h.1.ses i hi).2.2.1]
    simp only [forall_eq, nI_1]
    unfold opn
    rcases (h.2.2.1.ses i hi).1 with q | q <;> simp [q, b2i]
theorem m_opened (hW : WF w ns np cm nl) {k : Int32 → sSt → Prop} : F_X12_opened (sw S w) k ↔ k (nI ((List.range' 0 ns).countP (opn w))) (sw S w) := by
  have hn := hW.hns.1
  rw [F_X12_opened]
  refine lp_sum0 (L := fun m c i => B_X12_opened_4 m c i (sw S w) k) (K := fun c => k c (sw S w)) _ (fuel_gt (by omega)) (fun m c => ?_) (fun m c i hi => ?_)
  · simp only [B_X12_opened_4_s, Bb_X12_opened_4, sw_w, hW.hns.2]
    simp [nI_leI (show ns < 2147483648 by omega) (show ns < 2147483648 by omega)]
  · have hlt : ¬ nI ns ≤ nI i := nI_ge hi (by omega)
    simp only [B_X12_opened_4_s, Bb_X12_opened_4, B_X12_opened_28, sw_w, hW.hns.2, hlt, false_implies, true_and, not_false_eq_true, true_implies, m_isOpen (show i < 4 by omega), forall_eq, nI_1, b2i_0, Bool.not_eq_false]
    cases opn w i <;> simp [b2i]
theorem m_lockedBy {s : Int32} {k : Int32 → sSt → Prop} : F_X12_lockedBy s (sw S w) k ↔ k (nI ((List.range' 0 24).countP (lbs w s))) (sw S w) := by
  rw [F_X12_lockedBy]
  refine lp_sum0 (L := fun m c i => B_X12_lockedBy_4 m s c i (sw S w) k) (K := fun c => k c (sw S w)) _ (fuel_gt (by omega)) (fun m c => ?_) (fun m c i hi => ?_)
  · simp only [B_X12_lockedBy_4_s, Bb_X12_lockedBy_4]
    simp [show (24 : Int32) ≤ nI 24 from by decide]
  · have h : ¬ (24 : Int32) ≤ nI i := nI_ge (b := 24) hi (by omega)
    simp only [B_X12_lockedBy_4_s, Bb_X12_lockedBy_4, B_X12_lockedBy_33, B_X12_lockedBy_34, m_numberOf hi, m_lockerOf hi, sw_w, h, false_implies, true_and, not_false_eq_true, true_implies, forall_eq, nI_1, cdi, cdn]
    unfold lbs lie
    by_cases c1 : num w i = -1 <;> by_cases c2 : lkr w i = s <;> simp [c1, c2, b2i]
theorem m_cnt98 {k : Int32 → sSt → Prop} : B_X12_count_98 fuel 0 0 (sw S w) k ↔ k (nI ((List.range' 0 24).countP (isin w))) (sw S w) := by
  refine lp_sum0 (L := fun m c i => B_X12_count_98 m c i (sw S w) k) (K := fun c => k c (sw S w)) _ (fuel_gt (by omega)) (fun m c => ?_) (fun m c i hi => ?_)
  · simp only [B_X12_count_98_s, Bb_X12_count_98]
    simp [show (24 : Int32) ≤ nI 24 from by decide]
  · have h : ¬ (24 : Int32) ≤ nI i := nI_ge (b := 24) hi (by omega)
    simp only [B_X12_count_98_s, Bb_X12_count_98, B_X12_count_118, m_isIn hi, sw_w, h, false_implies, true_and, not_false_eq_true, true_implies, forall_eq, nI_1, b2i_0, Bool.not_eq_false]
    cases isin w i <;> simp [b2i]
theorem m_cnt156 {k : Int32 → sSt → Prop} : B_X12_count_156 fuel 0 0 (sw S w) k ↔ k (nI ((List.range' 0 24).countP (lckd w))) (sw S w) := by
  refine lp_sum0 (L := fun m c i => B_X12_count_156 m c i (sw S w) k) (K := fun c => k c (sw S w)) _ (fuel_gt (by omega)) (fun m c => ?_) (fun m c i hi => ?_)
  · simp only [B_X12_count_156_s, Bb_X12_count_156]
    simp [show (24 : Int32) ≤ nI 24 from by decide]
  · have h : ¬ (24 : Int32) ≤ nI i := nI_ge (b := 24) hi (by omega)
    simp only [B_X12_count_156_s, Bb_X12_count_156, B_X12_count_185, B_X12_count_186, m_numberOf hi, m_lockerOf hi, sw_w, h, false_implies, true_and, not_false_eq_true, true_implies, forall_eq, nI_1, cdi]
    unfold lckd lie
    by_cases c1 : num w i = -1 <;> by_cases c2 : lkr w i = -1 <;> simp [c1, c2, b2i]
/-- one that a session holds: all, over, felt, astray -/
def hld (w : Wd) (s : Nat) (x : Nat) (j : Nat) : Bool := stt w j (nI s) 1 && (decide (w (ver w j (nI s) + 9) = nI s) && (if x = 0 then true else if x = 1 then !decide (w 3 ≤ w (ver w j (nI s) + 10)) else if x = 2 then !decide (w 3 + w (1149 + 27 * s) ≤ w (ver w j (nI s) + 10)) else (!decide (w 3 ≤ w (ver w j (nI s) + 10))) != (!decide (w 3 + w (1149 + 27 * s) ≤ w (ver w j (nI s) + 10)))))
theorem m_holdsOf {s : Nat} (hs : s < 4) {x : Nat} (hx : x < 4) {k : Int32 → sSt → Prop} : F_X12_holdsOf (nI s) (nI x) (sw S w) k ↔ k (nI ((List.range' 0 24).countP (hld w s x))) (sw S w) := by
  rw [F_X12_holdsOf]
  refine lp_sum0 (L := fun m c i => B_X12_holdsOf_5 m (nI s) (nI x) c i (sw S w) k) (K := fun c => k c (sw S w)) _ (fuel_gt (by omega)) (fun m c => ?_) (fun m c i hi => ?_)
  · simp only [B_X12_holdsOf_5_s, Bb_X12_holdsOf_5]
    simp [show (24 : Int32) ≤ nI 24 from by decide]
  · have h : ¬ (24 : Int32) ≤ nI i := nI_ge (b := 24) hi (by omega)
    have hvl := ver_lt (w := w) (s := nI s) hi
    simp only [B_X12_holdsOf_5_s, Bb_X12_holdsOf_5, B_X12_holdsOf_168, h, false_implies, true_and, not_false_eq_true, true_implies, forall_eq, nI_1]
    have es := @m_isState (sw S w) i hi (nI s) 1
    simp only [sw_w] at es
    rw [m_seen hi, sw_w, es]
    unfold hld
    cases c0 : stt w i (nI s) 1
    · simp [b2i]
    · have hse : sees w i (nI s) = true := by simp only [stt, Bool.and_eq_true] at c0; exact c0.1
      simp only [b2i_t, show ¬ ((1 : Int32) = 0) from by decide, false_implies, not_false_eq_true, true_implies, true_and, seeI, hse, if_true, na_9, na_10, Bool.true_and]
      rw [ix_n (by omega) (by omega), ix_n (by omega) (by omega)]
      simp only [B_X12_holdsOf_72, na_10, m_sessAt0, sw_w]
      simp only [ix_n (show ver w i (nI s) + 10 < 10421 by omega) (show 10421 ≤ 2147483648 by omega), ix_n (show 1149 + 27 * s < 10421 by omega) (show 10421 ≤ 2147483648 by omega), sw_w]
      simp only [B_X12_holdsOf_109, B_X12_holdsOf_148, B_X12_holdsOf_152, B_X12_holdsOf_153, B_X12_holdsOf_166, B_X12_holdsOf_168, forall_eq, nI_1]
      rcases (show x = 0 ∨ x = 1 ∨ x = 2 ∨ x = 3 by omega) with rfl | rfl | rfl | rfl <;> by_cases c1 : w (ver w i (nI s) + 9) = nI s <;> by_cases c2 : w 3 ≤ w (ver w i (nI s) + 10) <;> by_cases c3 : w 3 + w (1149 + 27 * s) ≤ w (ver w i (nI s) + 10) <;> simp [c1, c2, c3, b2i, show nI 0 = (0 : Int32) from rfl, show nI 1 = (1 : Int32) from rfl, show nI 2 = (2 : Int32) from rfl, show nI 3 = (3 : Int32) from rfl, -Int32.not_le]
theorem x_holds (h : zB S t w π ns np cm nl) {s : Nat} (hs : s < ns) {x : Nat} (hx : x < 4) {k : Int32 → sSt → Prop} : F_X6_holds t (nI s) (nI x) S k ↔ k (nI ((List.range' 0 24).countP (hld w s x))) S := by
  have hlen := h.2.1.len
  have hn := h.2.2.1.hns.1
  have e : (List.range' 0 24).countP (hld w s x) = (List.range' 0 π.length).countP (fun i => hld w s x (pl π i)) := by
    rw [cnt_pl π (fun o => hld w s x o), h.2.1.cnt]
    refine List.countP_congr fun o _ => ?_
    constructor
    · intro q
      have : sees w o (nI s) = true := by simp only [hld, stt, Bool.and_eq_true] at q; exact q.1.1
      rw [sees_lie this, q]; rfl
    · intro q; simp only [Bool.and_eq_true] at q; exact q.2
  have hm : S.1 13 t 10 = w 3 := h.1.sca.1 3 (by omega)
  have hsk : S.1 24 (4 * t + s) 1 = w (1149 + 27 * s) := (h.1.ses s hs).1
  rw [F_X6_holds, e]
  refine lp_sum0 (L := fun m c i => B_X6_holds_5 m t (nI s) (nI x) c i S k) (K := fun c => k c S) _ (fuel_gt (by omega)) (fun m c => ?_) (fun m c i hi => ?_)
  · simp only [B_X6_holds_5_s, Bb_X6_holds_5, h.1.size]
    simp [nI_leI (show π.length < 2147483648 by omega) (show π.length < 2147483648 by omega)]
  · have hlt : ¬ nI π.length ≤ nI i := nI_ge hi (by omega)
    simp only [B_X6_holds_5_s, Bb_X6_holds_5, B_X6_holds_50, h.1.size, hlt, false_implies, true_and, not_false_eq_true, true_implies]
    rw [ix_n (by omega) (by omega), x_isSeenBy h.1 h.2.1 h.2.2.1 hi]
    simp only [forall_eq, nI_1, b2i_0, Bool.not_eq_false, x_seenBy h.1 hi]
    cases hse : sees w (pl π i) (nI s)
    · have : hld w s x (pl π i) = false := by unfold hld stt; rw [hse]; rfl
      simp [this, b2i]
    · have hv := x_ver h.1 hi hse
      have h3 : S.1 22 (cver (S.2 14 t i) w (pl π i) (nI s)) 0 = _ := hv 3 (by omega)
      have h9 : S.1 22 (cver (S.2 14 t i) w (pl π i) (nI s)) 6 = _ := hv 9 (by omega)
      have h10 : S.1 22 (cver (S.2 14 t i) w (pl π i) (nI s)) 7 = _ := hv 10 (by omega)
      simp only [Bool.true_eq_false, false_implies, true_implies, true_and]
      rw [F_X6_isHold, h3, h9, h10, hm]
      simp only [B_X6_isHold_34]
      simp only [ix_n (show s < 4 by omega) (show 4 ≤ 2147483648 by omega), h10, hm, hsk]
      simp only [B_X6_isHold_62, bz_0, bz_1]
      unfold hld stt
      rw [hse, Bool.true_and]
      rcases (show x = 0 ∨ x = 1 ∨ x = 2 ∨ x = 3 by omega) with rfl | rfl | rfl | rfl <;> by_cases c0 : w (ver w (pl π i) (nI s) + 3) = 1 <;> by_cases c1 : w (ver w (pl π i) (nI s) + 9) = nI s <;> by_cases c2 : w 3 ≤ w (ver w (pl π i) (nI s) + 10) <;> by_cases c3 : w 3 + w (1149 + 27 * s) ≤ w (ver w (pl π i) (nI s) + 10) <;> simp [c0, c1, c2, c3, b2i, show nI 0 = (0 : Int32) from rfl, show nI 1 = (1 : Int32) from rfl, show nI 2 = (2 : Int32) from rfl, show nI 3 = (3 : Int32) from rfl, -Int32.not_le]
end XN
end PU28
