section PU42
/-! A TABLE IS COPIED -/
section CS
variable {Sc Sc' Sm S' S : sSt} {l sp n t t' : Nat} {w w' : Wd} {π π' : List Nat} {ns np cm nl ns' np' cm' nl' : Nat}
theorem x_copySaved {q q' : Nat} (hq : q ≠ q') {S0 : sSt} {k : sSt → Prop} (hk : ∀ S', (∀ a b, ¬ (a = 22 ∧ b / 6 = q) → S'.1 a b = S0.1 a b) → S'.2 = S0.2 → (∀ d, d < 2 → S'.1 22 (6 * q + d) = S0.1 22 (6 * q + d)) → (∀ y, y < 4 → svb S0 q' y = true → ∀ f, f < 8 → S'.1 22 (6 * q + 2 + y) f = S0.1 22 (6 * q' + 2 + y) f) → k S') : B_X1_copyFrom_113 fuel q q' 0 S0 k := by
  suffices hh : ∀ r i m (S1 : sSt), i + r = 4 → r < m → (∀ a b, ¬ (a = 22 ∧ b / 6 = q) → S1.1 a b = S0.1 a b) → S1.2 = S0.2 → (∀ d, d < 2 → S1.1 22 (6 * q + d) = S0.1 22 (6 * q + d)) → (∀ y, y < i → svb S0 q' y = true → ∀ f, f < 8 → S1.1 22 (6 * q + 2 + y) f = S0.1 22 (6 * q' + 2 + y) f) → B_X1_copyFrom_113 m q q' (nI i) S1 k from
    hh 4 0 fuel S0 (by omega) (fuel_gt (by omega)) (fun _ _ _ => rfl) rfl (fun _ _ => rfl) (fun y hy => absurd hy (Nat.not_lt_zero y))
  intro r
  induction r with
  | zero =>
    intro i m S1 hi hm o h2 hd hy
    obtain ⟨m, rfl⟩ : ∃ z, m = z + 1 := ⟨m - 1, by omega⟩
    have e : i = 4 := by omega
    subst e
    simp only [B_X1_copyFrom_113_s, Bb_X1_copyFrom_113, show (4 : Int32) ≤ nI 4 from by decide, true_implies, not_true_eq_false, false_implies, and_true]
    exact hk S1 o h2 hd hy
  | succ r ih =>
    intro i m S1 hi hm o h2 hd hy
    obtain ⟨m, rfl⟩ : ∃ z, m = z + 1 := ⟨m - 1, by omega⟩
    have h : ¬ (4 : Int32) ≤ nI i := nI_ge (b := 4) (by omega) (by omega)
    have es : svb S1 q' i = svb S0 q' i := by unfold svb; rw [o 21 q' (by omega)]
    simp only [B_X1_copyFrom_113_s, Bb_X1_copyFrom_113, B_X1_copyFrom_145, h, false_implies, true_and, not_false_eq_true, true_implies]
    rw [x_isSavedAt (by omega), es]
    simp only [b2i_0, Bool.not_eq_false, forall_eq, nI_1]
    refine ⟨fun c => ih (i + 1) m S1 (by omega) (by omega) o h2 hd (fun y hy' hs f hf => ?_), fun c => ?_⟩
    · by_cases e : y = i
      · rw [e, c] at hs; exact absurd hs (by decide)
      · exact hy y (by omega) hs f hf
    · rw [ix_n (by omega) (by omega)]
      refine x_copyV (fun S2 g1 g2 g3 => ih (i + 1) m S2 (by omega) (by omega) (fun a b z => ?_) (g3.trans h2) (fun d hd' => ?_) (fun y hy' hs f hf => ?_))
      · rw [g2 a b (fun c => z ⟨c.1, by omega⟩)]; exact o a b z
      · rw [g2 _ _ (by omega)]; exact hd d hd'
      · by_cases e : y = i
        · rw [e, g1]
          show (if f < 8 then _ else _) = _
          rw [if_pos hf, o 22 _ (by omega)]
        · rw [g2 _ _ (by omega)]
          exact hy y (by omega) hs f hf
theorem x_copyJob {q q' j : Nat} (hq : q ≠ q') (hJ : JR S q' w j) (hZ : JZ S q' w j ns) (hn : ns ≤ 4) (h01 : w (21 + 47 * j + 1) = 0 ∨ w (21 + 47 * j + 1) = 1) {k : sSt → Prop} (hk : ∀ S', (∀ a b, ¬ (a = 21 ∧ b = q) → ¬ (a = 22 ∧ b / 6 = q) → S'.1 a b = S.1 a b) → S'.2 = S.2 → JR S' q w j → JZ S' q w j ns → k S') : F_X1_copyFrom q q' S k := by
  obtain ⟨a1, a2, a3, a4, a5⟩ := hJ
  rw [F_X1_copyFrom]
  intro S1 e1 S2 e2 S3 e3 S4 e4 S5 e5 S6 e6 S7 e7
  have o7 : ∀ a b, ¬ (a = 21 ∧ b = q) → S7.1 a b = S.1 a b := fun a b z => by
    rw [e7, e6, e5, e4, e3, e2, e1]; simp only [uI_other z]
  have h5 : S7.1 21 q' 5 = w (21 + 47 * j + 1) := by rw [o7 _ _ (by omega)]; exact a2
  have hb : S7.1 21 q' 5 = 0 ∨ S7.1 21 q' 5 = 1 := by rw [h5]; exact h01
  refine ⟨hb, ?_⟩
  intro S8 e8 S10 e10 S11 e11
  have o : ∀ a b, ¬ (a = 21 ∧ b = q) → S11.1 a b = S.1 a b := fun a b z => by
    rw [e11, uI_other z, e10, uI_other z, e8, uI_other z]; exact o7 a b z
  have r11 : S11.2 = S.2 := by rw [e11, e10, e8, e7, e6, e5, e4, e3, e2, e1]; rfl
  have c21 : ∀ f, 3 ≤ f → f ≤ 12 → S11.1 21 q f = S.1 21 q' f := by
    have ne : ¬ ((21 : Nat) = 21 ∧ q' = q) := fun z => hq z.2.symm
    intro f h3 h12
    rcases (show f = 3 ∨ f = 4 ∨ f = 5 ∨ f = 6 ∨ f = 7 ∨ f = 8 ∨ f = 9 ∨ f = 10 ∨ f = 11 ∨ f = 12 by omega) with rfl | rfl | rfl | rfl | rfl | rfl | rfl | rfl | rfl | rfl
    all_goals rw [e11, e10, e8, e7, e6, e5, e4, e3, e2, e1]
    all_goals simp only [uI_other ne]
    all_goals simp [uI]
  have fin : ∀ S', (∀ a b, ¬ (a = 21 ∧ b = q) → ¬ (a = 22 ∧ b / 6 = q) → S'.1 a b = S.1 a b) → S'.2 = S.2 → (∀ f, 3 ≤ f → f ≤ 12 → S'.1 21 q f = S.1 21 q' f) → (∀ f, f < 8 → S'.1 22 (6 * q) f = S.1 22 (6 * q') f) → (lkr w j ≠ -1 → (∀ f, f < 8 → S'.1 22 (6 * q + 1) f = S.1 22 (6 * q' + 1) f) ∧ ∀ y, y < 4 → svb S q' y = true → ∀ f, f < 8 → S'.1 22 (6 * q + 2 + y) f = S.1 22 (6 * q' + 2 + y) f) → k S' := by
    intro S' q1 q2 q3 q4 q5
    have cg : ∀ {v v' f}, f < 22 → (∀ f, f < 8 → S'.1 22 v f = S.1 22 v' f) → cJ S' q v f = cJ S q' v' f := by
      intro v v' f hf hv
      rcases ((Nat.lt_or_ge f 13).imp id (fun z => ⟨f - 13, by omega⟩) : f < 13 ∨ ∃ y, f = y + 13) with z | ⟨y, rfl⟩
      · rcases (show f = 0 ∨ f = 1 ∨ f = 2 ∨ f = 3 ∨ f = 4 ∨ f = 5 ∨ f = 6 ∨ f = 7 ∨ f = 8 ∨ f = 9 ∨ f = 10 ∨ f = 11 ∨ f = 12 by omega) with rfl | rfl | rfl | rfl | rfl | rfl | rfl | rfl | rfl | rfl | rfl | rfl | rfl <;> simp only [cJ] <;> first | exact q3 _ (by omega) (by omega) | exact hv _ (by omega)
      · show cz (S'.1 22 v 4) y = cz (S.1 22 v' 4) y
        rw [hv 4 (by omega)]
    refine hk S' q1 q2 ⟨by rw [q3 6 (by omega) (by omega)]; exact a1, by rw [q3 5 (by omega) (by omega)]; exact a2, by rw [q3 4 (by omega) (by omega)]; exact a3, fun z f hf => by rw [cg hf q4]; exact a4 z f hf, fun z f hf => by rw [cg hf (q5 z).1]; exact a5 z f hf⟩ (fun s y hs hy hlk hsv => ?_)
    obtain ⟨b1, b2⟩ := hZ s y hs hy hlk hsv
    have es : svb S' q y = svb S q' y := by unfold svb; rw [q3 3 (by omega) (by omega)]
    rw [es]
    exact ⟨b1, fun z f hf => by rw [cg hf ((q5 (by rw [hlk]; exact ni_m1 (by omega))).2 y hy z)]; exact b2 z f hf⟩
  refine x_copyV (fun S15 g1 g2 g3 => ?_)
  have f0 : ∀ f, f < 8 → S15.1 22 (6 * q) f = S.1 22 (6 * q') f := fun f hf => by
    rw [g1]
    show (if f < 8 then _ else _) = _
    rw [if_pos hf, o 22 _ (by omega)]
  have o15 : ∀ a b, ¬ (a = 21 ∧ b = q) → ¬ (a = 22 ∧ b / 6 = q) → S15.1 a b = S.1 a b := fun a b z1 z2 => by
    rw [g2 _ _ (fun c => z2 ⟨c.1, by omega⟩)]; exact o a b z1
  have c15 : ∀ f, 3 ≤ f → f ≤ 12 → S15.1 21 q f = S.1 21 q' f := fun f h3 h12 => by rw [g2 _ _ (by omega)]; exact c21 f h3 h12
  have h4 : S15.1 21 q 4 = lkr w j := by rw [c15 4 (by omega) (by omega)]; exact a3
  rw [h4]
  refine ⟨fun c => ?_, fun c => fin S15 o15 (g3.trans r11) c15 f0 (fun z => absurd c z)⟩
  refine x_copyV (fun S20 p1 p2 p3 => ?_)
  have o20 : ∀ a b, ¬ (a = 21 ∧ b = q) → ¬ (a = 22 ∧ b / 6 = q) → S20.1 a b = S.1 a b := fun a b z1 z2 => by
    rw [p2 _ _ (fun c => z2 ⟨c.1, by omega⟩)]; exact o15 a b z1 z2
  refine x_copySaved hq (fun S' n1 n2 n3 n4 => fin S' (fun a b z1 z2 => (n1 a b z2).trans (o20 a b z1 z2)) (n2.trans (p3.trans (g3.trans r11))) (fun f h3 h12 => ?_) (fun f hf => ?_) (fun _ => ⟨fun f hf => ?_, fun y hy hs f hf => ?_⟩))
  · rw [n1 _ _ (by omega), p2 _ _ (by omega)]; exact c15 f h3 h12
  · have := n3 0 (by omega)
    rw [Nat.add_zero] at this
    rw [this, p2 _ _ (by omega)]; exact f0 f hf
  · rw [n3 1 (by omega), p1]
    show (if f < 8 then _ else _) = _
    rw [if_pos hf, o15 22 _ (by omega) (by omega)]
  · have es : svb S20 q' y = svb S q' y := by unfold svb; rw [o20 21 q' (by omega) (by omega)]
    rw [n4 y hy (by rw [es]; exact hs) f hf, o20 22 _ (by omega) (by omega)]
end CS
end PU42
