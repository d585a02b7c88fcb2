section PU31
/-! CALLS: was, longest -/
def row (w : Wd) (a f : Nat) : Int32 := w (1289 + 5 * a + f)
def wsf (w : Wd) (job m : Int32) : Nat → Nat → Int32
  | 0, _ => -1
  | d + 1, a => if row w a 1 = job then (if row w a 0 ≤ m then (if row w a 2 = 1 then row w a 3 else -1) else wsf w job m d (a + 1)) else wsf w job m d (a + 1)
/-- the next later row of the same job, ago -/
def ltr (w : Wd) (a : Nat) : Nat → Option Nat
  | 0 => none
  | d + 1 => if row w d 1 = row w a 1 then some d else ltr w a d
def hfr (w : Wd) (a : Nat) : Int32 := match ltr w a a with | none => 0 | some k => if row w k 3 = row w a 3 then row w k 0 - row w a 0 else 0
def isMx (v : Nat → Int32) (N : Nat) (M : Int32) : Prop := (0 ≤ M ∧ ∀ i, i < N → v i ≤ M) ∧ (M = 0 ∨ ∃ i, i < N ∧ M = v i)
theorem isMx.one {v v' : Nat → Int32} {N : Nat} {M M' : Int32} (h : isMx v N M) (h' : isMx v' N M') (e : ∀ i, i < N → ∃ i', i' < N ∧ v i = v' i') (e' : ∀ i, i < N → ∃ i', i' < N ∧ v' i = v i') : M = M' := by
  have h1 : M ≤ M' := by
    rcases h.2 with q | ⟨i, q1, q2⟩
    · rw [q]; exact h'.1.1
    · obtain ⟨i', z1, z2⟩ := e i q1
      rw [q2, z2]; exact h'.1.2 i' z1
  have h2 : M' ≤ M := by
    rcases h'.2 with q | ⟨i, q1, q2⟩
    · rw [q]; exact h.1.1
    · obtain ⟨i', z1, z2⟩ := e' i q1
      rw [q2, z2]; exact h.1.2 i' z1
  exact Int32.le_antisymm h1 h2
theorem lp_max {L : Nat → Int32 → Int32 → Prop} {K : Int32 → Prop} {N F : Nat} (v : Nat → Int32) (hF : N < F) (he : ∀ m c, L (m + 1) c (nI N) ↔ K c) (hs : ∀ m c i, i < N → 0 ≤ c → (L (m + 1) c (nI i) ↔ L m (if c < v i then v i else c) (nI (i + 1)))) : ∃ M, isMx v N M ∧ (L F 0 0 ↔ K M) := by
  suffices h : ∀ r i m c, i + r = N → r < m → isMx v i c → ∃ M, isMx v N M ∧ (L m c (nI i) ↔ K M) from h N 0 F 0 (by omega) hF ⟨⟨Int32.le_refl _, fun i hi => absurd hi (Nat.not_lt_zero i)⟩, Or.inl rfl⟩
  intro r
  induction r with
  | zero =>
    intro i m c hi hm hc
    obtain ⟨m, rfl⟩ : ∃ q, m = q + 1 := ⟨m - 1, by omega⟩
    have : i = N := by omega
    subst this
    exact ⟨c, hc, he m c⟩
  | succ r ih =>
    intro i m c hi hm hc
    obtain ⟨m, rfl⟩ : ∃ q, m = q + 1 := ⟨m - 1, by omega⟩
    rw [hs m c i (by omega) hc.1.1]
    refine ih (i + 1) m _ (by omega) (by omega) ?_
    by_cases q : c < v i
    · rw [if_pos q]
      refine ⟨⟨Int32.le_trans hc.1.1 (Int32.le_of_lt q), fun i' hi' => ?_⟩, Or.inr ⟨i, by omega, rfl⟩⟩
      by_cases z : i' = i
      · rw [z]; exact Int32.le_refl _
      · exact Int32.le_trans (hc.1.2 i' (by omega)) (Int32.le_of_lt q)
    · rw [if_neg q]
      refine ⟨⟨hc.1.1, fun i' hi' => ?_⟩, ?_⟩
      · by_cases z : i' = i
        · rw [z]; exact Int32.not_lt.mp q
        · exact hc.1.2 i' (by omega)
      · rcases hc.2 with z | ⟨i', z1, z2⟩
        · exact Or.inl z
        · exact Or.inr ⟨i', by omega, z2⟩
section CS
variable {Sc Sc' Sm S' S : sSt} {l sp n : Nat} {w w' : Wd} {π π' : List Nat} {ns np cm nl ns' np' cm' nl' : Nat}
theorem x_cellA (h : zB Sc l w π ns np cm nl) {a f : Nat} (ha : a < nl) (hf : f < 5) {k : Int32 → sSt → Prop} : F_X2_cell l (nI (nl - 1 - a)) (nI f) Sc k ↔ k (row w a f) Sc := by
  rw [x_cell h (show nl - 1 - a < nl by omega) hf]
  unfold lg row
  rw [show nl - 1 - (nl - 1 - a) = a from by omega]
theorem x_c0 (h : zB Sc l w π ns np cm nl) {a : Nat} (ha : a < nl) {k : Int32 → sSt → Prop} : F_X2_cell l (nI (nl - 1 - a)) 0 Sc k ↔ k (row w a 0) Sc := x_cellA h (f := 0) ha (by omega)
theorem x_c1 (h : zB Sc l w π ns np cm nl) {a : Nat} (ha : a < nl) {k : Int32 → sSt → Prop} : F_X2_cell l (nI (nl - 1 - a)) 1 Sc k ↔ k (row w a 1) Sc := x_cellA h (f := 1) ha (by omega)
theorem x_c2 (h : zB Sc l w π ns np cm nl) {a : Nat} (ha : a < nl) {k : Int32 → sSt → Prop} : F_X2_cell l (nI (nl - 1 - a)) 2 Sc k ↔ k (row w a 2) Sc := x_cellA h (f := 2) ha (by omega)
theorem x_c3 (h : zB Sc l w π ns np cm nl) {a : Nat} (ha : a < nl) {k : Int32 → sSt → Prop} : F_X2_cell l (nI (nl - 1 - a)) 3 Sc k ↔ k (row w a 3) Sc := x_cellA h (f := 3) ha (by omega)
theorem m_l0 {a : Nat} (ha : a < 60) {k : Int32 → sSt → Prop} : F_X12_ofLog (nI a) 0 (sw S w) k ↔ k (row w a 0) (sw S w) := m_ofLog (f := 0) ha (by omega)
theorem m_l1 {a : Nat} (ha : a < 60) {k : Int32 → sSt → Prop} : F_X12_ofLog (nI a) 1 (sw S w) k ↔ k (row w a 1) (sw S w) := m_ofLog (f := 1) ha (by omega)
theorem m_l2 {a : Nat} (ha : a < 60) {k : Int32 → sSt → Prop} : F_X12_ofLog (nI a) 2 (sw S w) k ↔ k (row w a 2) (sw S w) := m_ofLog (f := 2) ha (by omega)
theorem m_l3 {a : Nat} (ha : a < 60) {k : Int32 → sSt → Prop} : F_X12_ofLog (nI a) 3 (sw S w) k ↔ k (row w a 3) (sw S w) := m_ofLog (f := 3) ha (by omega)
theorem x_size (h : zB Sc l w π ns np cm nl) : Sc.1 19 l 2 = nI nl := by
  obtain ⟨x, hx, x1, x2, -⟩ := h.1.log
  exact x2
theorem x_tokenAt (h : zB Sc l w π ns np cm nl) {job m : Int32} {k : Int32 → sSt → Prop} : F_X2_tokenAt l job m Sc k ↔ k (wsf w job m nl 0) Sc := by
  have hl := h.2.2.1.hnl.1
  rw [F_X2_tokenAt, forall_eq, x_size h]
  suffices hh : ∀ d a f, a + d = nl → d < f → (B_X2_tokenAt_7 f l job m (nI (nl - a) - 1) Sc k ↔ k (wsf w job m d a) Sc) by
    have := hh nl 0 fuel (by omega) (fuel_gt (by omega))
    rw [Nat.sub_zero] at this; exact this
  intro d
  induction d with
  | zero =>
    intro a f ha hf
    obtain ⟨f, rfl⟩ : ∃ y, f = y + 1 := ⟨f - 1, by omega⟩
    rw [show nl - a = 0 from by omega]
    simp only [B_X2_tokenAt_7_s, Bb_X2_tokenAt_7, show nI 0 - 1 < 0 from by decide, true_implies, not_true_eq_false, false_implies, and_true, wsf]
  | succ d ih =>
    intro a f ha hf
    obtain ⟨f, rfl⟩ : ∃ y, f = y + 1 := ⟨f - 1, by omega⟩
    have e1 : nI (nl - a) - 1 = nI (nl - 1 - a) := by rw [show nl - a = (nl - 1 - a) + 1 from by omega, nI_pred]
    have h0 : ¬ nI (nl - 1 - a) < 0 := nI_pos (by omega)
    have e2 : nI (nl - 1 - a) + (-1) = nI (nl - (a + 1)) - 1 := by
      rw [show nl - (a + 1) = nl - 1 - a from by omega]; exact (Int32.sub_eq_add_neg _ _).symm
    rw [e1]
    simp only [B_X2_tokenAt_7_s, Bb_X2_tokenAt_7, B_X2_tokenAt_52, h0, false_implies, true_and, not_false_eq_true, true_implies, x_c1 h (show a < nl by omega), x_c0 h (show a < nl by omega), x_c2 h (show a < nl by omega), x_c3 h (show a < nl by omega), forall_eq, e2, ih (a + 1) f (by omega) (by omega), wsf]
    by_cases c1 : row w a 1 = job
    · by_cases c2 : row w a 0 ≤ m
      · have c3 : ¬ m < row w a 0 := Int32.not_lt.mpr c2
        by_cases c4 : row w a 2 = 1 <;> simp [c1, c2, c3, c4, -Int32.not_le, -Int32.not_lt]
      · have c3 : m < row w a 0 := Int32.not_le.mp c2
        simp [c1, c2, c3, -Int32.not_le, -Int32.not_lt]
    · simp [c1]
theorem m_was14 (hW : WF w ns np cm nl) {job m : Int32} {k : Int32 → sSt → Prop} : B_X12_was_14 fuel job m 0 (sw S w) k ↔ k (wsf w job m nl 0) (sw S w) := by
  have hl := hW.hnl.1
  suffices hh : ∀ d a f, a + d = nl → d < f → (B_X12_was_14 f job m (nI a) (sw S w) k ↔ k (wsf w job m d a) (sw S w)) from hh nl 0 fuel (by omega) (fuel_gt (by omega))
  intro d
  induction d with
  | zero =>
    intro a f ha hf
    obtain ⟨f, rfl⟩ : ∃ y, f = y + 1 := ⟨f - 1, by omega⟩
    have : a = nl := by omega
    subst this
    simp only [B_X12_was_14_s, Bb_X12_was_14, B_X12_was_51, sw_w, hW.hnl.2, nI_leI (show a < 2147483648 by omega) (show a < 2147483648 by omega), Nat.le_refl, true_implies, not_true_eq_false, false_implies, and_true, wsf]
  | succ d ih =>
    intro a f ha hf
    obtain ⟨f, rfl⟩ : ∃ y, f = y + 1 := ⟨f - 1, by omega⟩
    have h0 : ¬ nI nl ≤ nI a := nI_ge (by omega) (by omega)
    simp only [B_X12_was_14_s, Bb_X12_was_14, B_X12_was_51, B_X12_was_45, sw_w, hW.hnl.2, h0, false_implies, true_and, not_false_eq_true, true_implies, m_l0 (show a < 60 by omega), m_l1 (show a < 60 by omega), m_l2 (show a < 60 by omega), m_l3 (show a < 60 by omega), forall_eq, nI_1, ih (a + 1) f (by omega) (by omega), wsf]
    by_cases c1 : row w a 1 = job
    · by_cases c2 : row w a 0 ≤ m
      · by_cases c4 : row w a 2 = 1 <;> simp [c1, c2, c4, -Int32.not_le, -Int32.not_lt]
      · simp [c1, c2, -Int32.not_le, -Int32.not_lt]
    · simp [c1]
theorem cs_35 (h : Inv n Sc Sm) {a1 a2 a3 a4 a5 : Int32} {o : Int64} : CS_35 a1 a2 a3 a4 a5 Sc Sm o (fun S1 S2 _ => Inv (n + 1) S1 S2) := by
  obtain ⟨l, sp, π, ns, np, cm, nl, hR, hB, hc⟩ := h
  obtain ⟨w, hw⟩ : ∃ w, w = Sm.1 1 0 := ⟨_, rfl⟩
  have hs : Sm = sw Sm w := by rw [hw, sw_s]
  rw [← hw] at hB
  have hW := hB.2.2.1
  have m0 : MK Sm (uI Sm 0 0 0 0) := MK.rfl.f (by omega)
  have hI := inv_same hR hB hc m0
  show FW_was a1 a2 Sc o (fun r1 S2 o3 => F_X12_was a1 a2 Sm (tl n r1 S2 o3))
  unfold FW_was F_X11_was
  refine x_needJob hR.2.1 hB (fun i hi hnm hse => ?_) (fun hno => ⟨fun _ => ?_, fun q => absurd rfl q⟩)
  · have hj4 := hB.2.1.at hi
    rw [hR.2.1, x_tokenAt hB]
    show F_X12_was a1 a2 Sm (tl n 0 Sc _)
    rw [hs, F_X12_was]
    refine m_jobFor hW (fun j hj hnm1 hse1 _ => ⟨fun _ => ?_, fun q => absurd q (ni_m1 (by omega))⟩) (fun hno => (no_view hno hj4 hnm hse (Or.inl rfl)).elim)
    rw [m_was14 hW]
    exact tl_ok uI_at hI rfl
  · show F_X12_was a1 a2 Sm (tl n 1 Sc o)
    rw [hs, F_X12_was]
    exact m_jobFor hW (fun j hj hnm1 hse1 ha1 => (no_view (Or.inl hno) hj hnm1 hse1 ha1).elim) (fun _ S' g1 g2 => ⟨fun q => absurd rfl q, fun _ => tl_ex g1 (by decide) (inv_same hR hB hc g2)⟩)
theorem m_laterRow {a : Nat} (ha : a < 60) {k : Int32 → sSt → Prop} : F_X12_laterRow (nI a) (sw S w) k ↔ k (oI (ltr w a a)) (sw S w) := by
  rw [F_X12_laterRow, forall_eq]
  suffices hh : ∀ d f, d ≤ a → d < f → (B_X12_laterRow_4 f (nI a) (nI d - 1) (sw S w) k ↔ k (oI (ltr w a d)) (sw S w)) from hh a fuel (by omega) (fuel_gt (by omega))
  intro d
  induction d with
  | zero =>
    intro f _ hf
    obtain ⟨f, rfl⟩ : ∃ y, f = y + 1 := ⟨f - 1, by omega⟩
    simp only [B_X12_laterRow_4_s, Bb_X12_laterRow_4, show nI 0 - 1 < 0 from by decide, true_implies, not_true_eq_false, false_implies, and_true, ltr, oI, show nI 0 - 1 = (-1 : Int32) from by decide, show (-1 : Int32) < 0 from by decide]
  | succ d ih =>
    intro f hd hf
    obtain ⟨f, rfl⟩ : ∃ y, f = y + 1 := ⟨f - 1, by omega⟩
    rw [nI_pred]
    have h0 : ¬ nI d < 0 := nI_pos (by omega)
    have e2 : nI d + (-1) = nI d - 1 := (Int32.sub_eq_add_neg _ _).symm
    simp only [B_X12_laterRow_4_s, Bb_X12_laterRow_4, h0, false_implies, true_and, not_false_eq_true, true_implies, m_l1 (show d < 60 by omega), m_l1 ha, forall_eq, e2, ih f (by omega) (by omega), ltr]
    by_cases c1 : row w d 1 = row w a 1
    · simp [c1, oI]
    · simp [c1]
theorem x_holdFrom (h : zB Sc l w π ns np cm nl) {a : Nat} (ha : a < nl) {k : Int32 → sSt → Prop} : F_X2_holdFrom l (nI (nl - 1 - a)) Sc k ↔ k (hfr w a) Sc := by
  have hl := h.2.2.1.hnl.1
  unfold hfr
  rw [F_X2_holdFrom, forall_eq, nI_1]
  suffices hh : ∀ d f, d ≤ a → d < f → (B_X2_holdFrom_4 f l (nI (nl - 1 - a)) (nI (nl - d)) Sc k ↔ k (match ltr w a d with | none => 0 | some k => if row w k 3 = row w a 3 then row w k 0 - row w a 0 else 0) Sc) by
    have := hh a fuel (by omega) (fuel_gt (by omega))
    rw [show nl - a = nl - 1 - a + 1 from by omega] at this; exact this
  intro d
  induction d with
  | zero =>
    intro f _ hf
    obtain ⟨f, rfl⟩ : ∃ y, f = y + 1 := ⟨f - 1, by omega⟩
    rw [Nat.sub_zero]
    simp only [B_X2_holdFrom_4_s, Bb_X2_holdFrom_4, x_size h, nI_leI (show nl < 2147483648 by omega) (show nl < 2147483648 by omega), Nat.le_refl, true_implies, not_true_eq_false, false_implies, and_true, ltr]
  | succ d ih =>
    intro f hd hf
    obtain ⟨f, rfl⟩ : ∃ y, f = y + 1 := ⟨f - 1, by omega⟩
    have h0 : ¬ nI nl ≤ nI (nl - (d + 1)) := nI_ge (by omega) (by omega)
    rw [show nl - (d + 1) = nl - 1 - d from by omega] at h0 ⊢
    have e2 : nI (nl - 1 - d) + 1 = nI (nl - d) := by rw [nI_1]; congr 1; omega
    simp only [B_X2_holdFrom_4_s, Bb_X2_holdFrom_4, B_X2_holdFrom_47, x_size h, h0, false_implies, true_and, not_false_eq_true, true_implies, x_c1 h (show d < nl by omega), x_c1 h ha, x_c3 h (show d < nl by omega), x_c3 h ha, x_c0 h (show d < nl by omega), x_c0 h ha, forall_eq, e2, ih f (by omega) (by omega), ltr]
    by_cases c1 : row w d 1 = row w a 1
    · by_cases c2 : row w d 3 = row w a 3 <;> simp [c1, c2]
    · simp [c1]
def lgv (w : Wd) (a : Nat) : Int32 := if row w a 2 = 1 then hfr w a else 0
theorem max0 {c : Int32} (h : 0 ≤ c) : (if c < 0 then (0 : Int32) else c) = c := if_neg (Int32.not_lt.mpr h)
theorem cs_36 (h : Inv n Sc Sm) {a1 a2 a3 a4 a5 : Int32} {o : Int64} : CS_36 a1 a2 a3 a4 a5 Sc Sm o (fun S1 S2 _ => Inv (n + 1) S1 S2) := by
  obtain ⟨l, sp, π, ns, np, cm, nl, hR, hB, hc⟩ := h
  obtain ⟨w, hw⟩ : ∃ w, w = Sm.1 1 0 := ⟨_, rfl⟩
  have hs : Sm = sw Sm w := by rw [hw, sw_s]
  rw [← hw] at hB
  have hW := hB.2.2.1
  have hl := hW.hnl.1
  have m0 : MK Sm (uI Sm 0 0 0 0) := MK.rfl.f (by omega)
  have hI := inv_same hR hB hc m0
  show F_X11_longest Sc (fun r1 S2 => F_X12_longest Sm (tq n S2 r1))
  rw [F_X11_longest, hR.2.1, F_X2_longestHold]
  obtain ⟨M, hM, eM⟩ := lp_max (L := fun m c i => B_X2_longestHold_4 m l c i Sc (fun r1 S2 => F_X12_longest Sm (tq n S2 r1))) (K := fun c => F_X12_longest Sm (tq n Sc c)) (N := nl) (F := fuel) (fun c => lgv w (nl - 1 - c)) (fuel_gt (by omega)) (fun m c => by
      simp only [B_X2_longestHold_4_s, Bb_X2_longestHold_4, x_size hB, nI_leI (show nl < 2147483648 by omega) (show nl < 2147483648 by omega), Nat.le_refl, true_implies, not_true_eq_false, false_implies, and_true]) (fun m c i hi hc0 => by
      have h0 : ¬ nI nl ≤ nI i := nI_ge hi (by omega)
      have ei : nI i = nI (nl - 1 - (nl - 1 - i)) := by congr 1; omega
      simp only [B_X2_longestHold_4_s, Bb_X2_longestHold_4, B_X2_longestHold_32, x_size hB, h0, false_implies, true_and, not_false_eq_true, true_implies, nI_1]
      rw [ei, x_c2 hB (show nl - 1 - i < nl by omega), x_holdFrom hB (show nl - 1 - i < nl by omega)]
      simp only [forall_eq, lgv]
      by_cases c1 : row w (nl - 1 - i) 2 = 1
      · simp [c1, nI_1]
      · simp only [c1, if_false, max0 hc0, not_false_eq_true, true_implies, false_implies, and_true, nI_1])
  refine eM.mpr ?_
  rw [hs, F_X12_longest]
  rintro S1 rfl
  rw [sw_c (by omega)]
  obtain ⟨M', hM', eM'⟩ := lp_max (L := fun m c i => B_X12_longest_9 m c i (sw (uI Sm 0 0 0 0) w) (tq n Sc M)) (K := fun c => tq n Sc M c (sw (uI Sm 0 0 0 0) w)) (N := nl) (F := fuel) (fun a => lgv w a) (fuel_gt (by omega)) (fun m c => by
      simp only [B_X12_longest_9_s, Bb_X12_longest_9, sw_w, hW.hnl.2, nI_leI (show nl < 2147483648 by omega) (show nl < 2147483648 by omega), Nat.le_refl, true_implies, not_true_eq_false, false_implies, and_true]) (fun m c i hi hc0 => by
      have h0 : ¬ nI nl ≤ nI i := nI_ge hi (by omega)
      simp only [B_X12_longest_9_s, Bb_X12_longest_9, B_X12_longest_73, sw_w, hW.hnl.2, h0, false_implies, true_and, not_false_eq_true, true_implies, nI_1, m_laterRow (show i < 60 by omega), m_l2 (show i < 60 by omega), forall_eq, lgv, hfr]
      by_cases c1 : row w i 2 = 1
      · simp only [c1, if_true, not_true_eq_false, false_implies, true_and, true_implies]
        have hlt : ∀ d k, ltr w i d = some k → k < d := by
          intro d
          induction d with
          | zero => intro k hk; cases hk
          | succ d ih =>
            intro k hk
            rw [ltr] at hk
            split at hk
            · cases hk; omega
            · have := ih k hk; omega
        cases hq : ltr w i i with
        | none =>
          simp only [oI, show (-1 : Int32) < 0 from by decide, true_implies, not_true_eq_false, false_implies, and_true, max0 hc0]
        | some y =>
          have hy := hlt i y hq
          have hy0 : ¬ nI y < 0 := nI_pos (by omega)
          simp only [oI, hy0, false_implies, true_and, not_false_eq_true, true_implies, m_l3 (show y < 60 by omega), m_l3 (show i < 60 by omega), m_l0 (show y < 60 by omega), m_l0 (show i < 60 by omega)]
          by_cases c2 : row w y 3 = row w i 3
          · simp [c2]
          · simp [c2, max0 hc0]
      · simp only [c1, if_false, max0 hc0, not_false_eq_true, true_implies, false_implies, and_true])
  refine eM'.mpr (tq_ok hI ?_)
  exact hM.one hM' (fun i hi => ⟨nl - 1 - i, by omega, rfl⟩) (fun i hi => ⟨nl - 1 - i, by omega, by show lgv w i = lgv w (nl - 1 - (nl - 1 - i)); rw [show nl - 1 - (nl - 1 - i) = i from by omega]⟩)
end CS
end PU31
