section PU43
section CS
variable {Sc Sc' Sm S' S : sSt} {l sp n t t' : Nat} {w w' : Wd} {π π' : List Nat} {ns np cm nl ns' np' cm' nl' : Nat}
theorem nar_c {c x : Int32} (h : sgc c x) : vp_nar .char c = c := by
  rcases h with ⟨rfl, -⟩ | ⟨rfl, -⟩ | ⟨rfl, -⟩ | ⟨rfl, -⟩ <;> decide
theorem nar_b {c : Int32} (h : c = 0 ∨ c = 1) : vp_nar .boolean c = c := by
  rcases h with rfl | rfl <;> decide
def qIn (S S1 : sSt) (q p : Nat) (w : Wd) (i e : Nat) : Prop := (∀ a b, ¬ (3 ≤ a ∧ a ≤ 8 ∧ b = q) → S1.1 a b = S.1 a b) ∧ S1.2 = S.2 ∧ S1.1 3 q 5 = w p ∧ S1.1 3 q 6 = w (p + 1) ∧ S1.1 3 q 7 = w (p + 14) ∧ (∀ k, k < i → nI k < w (p + 1) → S1.1 4 q k = w (p + 2 + 3 * k) ∧ sgc (S1.1 5 q k) (w (p + 2 + 3 * k + 1)) ∧ S1.1 6 q k = w (p + 2 + 3 * k + 2)) ∧ (∀ k, k < e → nI k < w (p + 14) → S1.1 7 q k = w (p + 15 + 2 * k) ∧ S1.1 8 q k = w (p + 15 + 2 * k + 1) ∧ (S1.1 8 q k = 0 ∨ S1.1 8 q k = 1))
theorem x_copyKeys {q q' p : Nat} (hq : q ≠ q') (hQ : QR S q' w p) {S0 : sSt} (h0 : qIn S S0 q p w 4 0) {k : sSt → Prop} (hk : ∀ S', qIn S S' q p w 4 4 → k S') : B_X3_copyFrom_83 fuel q q' 0 S0 k := by
  suffices hh : ∀ r i m (S1 : sSt), i + r = 4 → r < m → qIn S S1 q p w 4 i → B_X3_copyFrom_83 m q q' (nI i) S1 k from hh 4 0 fuel S0 (by omega) (fuel_gt (by omega)) h0
  intro r
  induction r with
  | zero =>
    intro i m S1 hi hm hI
    obtain ⟨m, rfl⟩ : ∃ z, m = z + 1 := ⟨m - 1, by omega⟩
    have e : i = 4 := by omega
    subst e
    simp only [B_X3_copyFrom_83_s, Bb_X3_copyFrom_83, show (4 : Int32) ≤ nI 4 from by decide, true_implies, not_true_eq_false, false_implies, and_true]
    exact ⟨fun _ => hk S1 hI, fun _ => hk S1 hI⟩
  | succ r ih =>
    intro i m S1 hi hm hI
    obtain ⟨m, rfl⟩ : ∃ z, m = z + 1 := ⟨m - 1, by omega⟩
    have h : ¬ (4 : Int32) ≤ nI i := nI_ge (b := 4) (by omega) (by omega)
    have hI' := hI
    obtain ⟨o, r2, s5, s6, s7, ht, hkk⟩ := hI
    simp only [B_X3_copyFrom_83_s, Bb_X3_copyFrom_83, h, false_implies, true_and, not_false_eq_true, true_implies, s7]
    refine ⟨fun c => hk S1 ⟨o, r2, s5, s6, s7, ht, fun y hy hlt => hkk y ?_ hlt⟩, fun c => ?_⟩
    · have := Int32.lt_of_lt_of_le hlt c
      rw [nI_ltI (by omega) (by omega)] at this; exact this
    · rw [ix_n (by omega) (by omega)]
      obtain ⟨b1, b2, b3⟩ := hQ.2.2.2.2 i (by omega) (Int32.not_le.mp c)
      rintro S10 e10 S13 e13
      rw [forall_eq, show nI i + 1 = nI (i + 1) from nI_1 i]
      have g7 : S1.1 7 q' i = w (p + 15 + 2 * i) := by rw [o _ _ (by omega)]; exact b1
      have g8 : S10.1 8 q' i = w (p + 15 + 2 * i + 1) := by rw [e10, uI_other (by omega), o _ _ (by omega)]; exact b2
      have g8b : vp_nar .boolean (S10.1 8 q' i) = w (p + 15 + 2 * i + 1) := by
        rw [nar_b (by rw [g8, ← b2]; exact b3), g8]
      rw [g7] at e10
      rw [g8b] at e13
      have o13 : ∀ a b, ¬ (a = 7 ∧ b = q) → ¬ (a = 8 ∧ b = q) → S13.1 a b = S1.1 a b := fun a b z1 z2 => by rw [e13, uI_other z2, e10, uI_other z1]
      refine ih (i + 1) m S13 (by omega) (by omega) ⟨fun a b z => by rw [o13 a b (by omega) (by omega)]; exact o a b z, by rw [e13, e10]; exact r2, by rw [o13 _ _ (by omega) (by omega)]; exact s5, by rw [o13 _ _ (by omega) (by omega)]; exact s6, by rw [o13 _ _ (by omega) (by omega)]; exact s7, fun y hy hlt => by rw [o13 4 q (by omega) (by omega), o13 5 q (by omega) (by omega), o13 6 q (by omega) (by omega)]; exact ht y hy hlt, fun y hy hlt => ?_⟩
      by_cases e : y = i
      · subst e
        have v7 : S13.1 7 q y = w (p + 15 + 2 * y) := by rw [e13, uI_other (by omega), e10, uI_at]
        have v8 : S13.1 8 q y = w (p + 15 + 2 * y + 1) := by rw [e13, uI_at]
        exact ⟨v7, v8, by rw [v8, ← b2]; exact b3⟩
      · have v7 : S13.1 7 q y = S1.1 7 q y := by rw [e13, uI_other (by omega), e10, uI_nc (by omega)]
        have v8 : S13.1 8 q y = S1.1 8 q y := by rw [e13, uI_nc (by omega), e10, uI_other (by omega)]
        rw [v7, v8]
        exact hkk y (by omega) hlt
theorem x_copyQuery {q q' p : Nat} (hq : q ≠ q') (hQ : QR S q' w p) {k : sSt → Prop} (hk : ∀ S', (∀ a b, ¬ (3 ≤ a ∧ a ≤ 8 ∧ b = q) → S'.1 a b = S.1 a b) → S'.2 = S.2 → QR S' q w p → k S') : F_X3_copyFrom q q' S k := by
  rw [F_X3_copyFrom]
  intro S1 e1 S2 e2 S3 e3
  have ne : ¬ ((3 : Nat) = 3 ∧ q' = q) := fun z => hq z.2.symm
  rw [hQ.1] at e1
  have x2 : S1.1 3 q' 6 = w (p + 1) := by rw [e1, uI_other ne]; exact hQ.2.1
  rw [x2] at e2
  have x3 : S2.1 3 q' 7 = w (p + 14) := by rw [e2, uI_other ne, e1, uI_other ne]; exact hQ.2.2.1
  rw [x3] at e3
  have h0 : qIn S S3 q p w 0 0 := by
    refine ⟨fun a b z => by rw [e3, uI_other (by omega), e2, uI_other (by omega), e1, uI_other (by omega)], by rw [e3, e2, e1]; rfl, by rw [e3, uI_nc (by omega), e2, uI_nc (by omega), e1, uI_at], by rw [e3, uI_nc (by omega), e2, uI_at], by rw [e3, uI_at], fun y hy => absurd hy (Nat.not_lt_zero y), fun y hy => absurd hy (Nat.not_lt_zero y)⟩
  have fin : ∀ S', qIn S S' q p w 4 0 → B_X3_copyFrom_81 q q' S' k := fun S' hI => by
    rw [B_X3_copyFrom_81]
    refine x_copyKeys hq hQ hI (fun S'' hI2 => ?_)
    obtain ⟨o, r2, s5, s6, s7, ht, hkk⟩ := hI2
    exact hk S'' o r2 ⟨s5, s6, s7, ht, hkk⟩
  suffices hh : ∀ r i m (S1 : sSt), i + r = 4 → r < m → qIn S S1 q p w i 0 → B_X3_copyFrom_26 m q q' (nI i) S1 k from hh 4 0 fuel S3 (by omega) (fuel_gt (by omega)) h0
  clear h0 e1 e2 e3 x2 x3 S1 S2 S3
  intro r
  induction r with
  | zero =>
    intro i m S1 hi hm hI
    obtain ⟨m, rfl⟩ : ∃ z, m = z + 1 := ⟨m - 1, by omega⟩
    have e : i = 4 := by omega
    subst e
    simp only [B_X3_copyFrom_26_s, Bb_X3_copyFrom_26, show (4 : Int32) ≤ nI 4 from by decide, true_implies, not_true_eq_false, false_implies, and_true]
    exact ⟨fun _ => fin S1 hI, fun _ => fin S1 hI⟩
  | succ r ih =>
    intro i m S1 hi hm hI
    obtain ⟨m, rfl⟩ : ∃ z, m = z + 1 := ⟨m - 1, by omega⟩
    have h : ¬ (4 : Int32) ≤ nI i := nI_ge (b := 4) (by omega) (by omega)
    obtain ⟨o, r2, s5, s6, s7, ht, hkk⟩ := hI
    simp only [B_X3_copyFrom_26_s, Bb_X3_copyFrom_26, h, false_implies, true_and, not_false_eq_true, true_implies, s6]
    refine ⟨fun c => fin S1 ⟨o, r2, s5, s6, s7, fun y hy hlt => ht y ?_ hlt, hkk⟩, fun c => ?_⟩
    · have := Int32.lt_of_lt_of_le hlt c
      rw [nI_ltI (by omega) (by omega)] at this; exact this
    · rw [ix_n (by omega) (by omega)]
      obtain ⟨b1, b2, b3⟩ := hQ.2.2.2.1 i (by omega) (Int32.not_le.mp c)
      rintro S19 e19 S22 e22 S25 e25
      rw [forall_eq, show nI i + 1 = nI (i + 1) from nI_1 i]
      have g4 : S1.1 4 q' i = w (p + 2 + 3 * i) := by rw [o _ _ (by omega)]; exact b1
      have g5 : S19.1 5 q' i = S.1 5 q' i := by rw [e19, uI_other (by omega), o _ _ (by omega)]
      have g6 : S22.1 6 q' i = w (p + 2 + 3 * i + 2) := by rw [e22, uI_other (by omega), e19, uI_other (by omega), o _ _ (by omega)]; exact b3
      rw [g4] at e19
      rw [g5, nar_c b2] at e22
      rw [g6] at e25
      have o13 : ∀ a b, ¬ (a = 4 ∧ b = q) → ¬ (a = 5 ∧ b = q) → ¬ (a = 6 ∧ b = q) → S25.1 a b = S1.1 a b := fun a b z1 z2 z3 => by rw [e25, uI_other z3, e22, uI_other z2, e19, uI_other z1]
      refine ih (i + 1) m S25 (by omega) (by omega) ⟨fun a b z => by rw [o13 a b (by omega) (by omega) (by omega)]; exact o a b z, by rw [e25, e22, e19]; exact r2, by rw [o13 _ _ (by omega) (by omega) (by omega)]; exact s5, by rw [o13 _ _ (by omega) (by omega) (by omega)]; exact s6, by rw [o13 _ _ (by omega) (by omega) (by omega)]; exact s7, fun y hy hlt => ?_, fun y hy => absurd hy (Nat.not_lt_zero y)⟩
      by_cases e : y = i
      · subst e
        have v4 : S25.1 4 q y = w (p + 2 + 3 * y) := by rw [e25, uI_other (by omega), e22, uI_other (by omega), e19, uI_at]
        have v5 : S25.1 5 q y = S.1 5 q' y := by rw [e25, uI_other (by omega), e22, uI_at]
        have v6 : S25.1 6 q y = w (p + 2 + 3 * y + 2) := by rw [e25, uI_at]
        exact ⟨v4, by rw [v5]; exact b2, v6⟩
      · have v4 : S25.1 4 q y = S1.1 4 q y := by rw [e25, uI_other (by omega), e22, uI_other (by omega), e19, uI_nc (by omega)]
        have v5 : S25.1 5 q y = S1.1 5 q y := by rw [e25, uI_other (by omega), e22, uI_nc (by omega), e19, uI_other (by omega)]
        have v6 : S25.1 6 q y = S1.1 6 q y := by rw [e25, uI_nc (by omega), e22, uI_other (by omega), e19, uI_other (by omega)]
        rw [v4, v5, v6]
        exact ht y (by omega) hlt
theorem x_copySess {q q' : Nat} (hq : q ≠ q') {t t' s : Nat} (e1 : q = 4 * t + s) (e2 : q' = 4 * t' + s) (hS : SR S t' w s) (h01 : w (1149 + 27 * s + 2) = 0 ∨ w (1149 + 27 * s + 2) = 1) {k : sSt → Prop} (hk : ∀ S', (∀ a b, ¬ (3 ≤ a ∧ a ≤ 8 ∧ b = q + 1) → ¬ (a = 24 ∧ b = q) → S'.1 a b = S.1 a b) → S'.2 = S.2 → SR S' t w s → k S') : F_X5_copyFrom q q' S k := by
  subst e1
  subst e2
  obtain ⟨a1, a2, a3, a4, a5⟩ := hS
  rw [F_X5_copyFrom]
  refine x_copyQuery (show 4 * t + s + 1 ≠ 4 * t' + s + 1 by omega) a5 (fun S4 o4 r4 q4 => ?_)
  intro S5 e5 S6 e6
  have ne : ¬ ((24 : Nat) = 24 ∧ 4 * t' + s = 4 * t + s) := fun z => hq z.2.symm
  have f : ∀ y, S4.1 24 (4 * t' + s) y = S.1 24 (4 * t' + s) y := fun y => by rw [o4 _ _ (by omega)]
  have g : ∀ y, S6.1 24 (4 * t' + s) y = S.1 24 (4 * t' + s) y := fun y => by rw [e6, uI_other ne, e5, uI_other ne]; exact f y
  refine ⟨by rw [g, a3]; exact h01, ?_⟩
  intro S7 e7 S9 e9
  rw [f, a1] at e5
  have f2 : S5.1 24 (4 * t' + s) 2 = w (1149 + 27 * s + 1) := by rw [e5, uI_other ne, f]; exact a2
  rw [f2] at e6
  rw [g, a3] at e7
  have f4 : S7.1 24 (4 * t' + s) 4 = w (1149 + 27 * s + 3) := by rw [e7, uI_other ne, g]; exact a4
  rw [f4] at e9
  have o9 : ∀ a b, ¬ (a = 24 ∧ b = 4 * t + s) → S9.1 a b = S4.1 a b := fun a b z => by rw [e9, uI_other z, e7, uI_other z, e6, uI_other z, e5, uI_other z]
  refine hk S9 (fun a b z1 z2 => by rw [o9 a b z2]; exact o4 a b z1) (by rw [e9, e7, e6, e5]; exact r4) ⟨?_, ?_, ?_, ?_, q4.c (fun y _ _ => o9 y _ (by omega)) (fun _ _ _ => rfl)⟩
  · rw [e9, uI_nc (by omega), e7, uI_nc (by omega), e6, uI_nc (by omega), e5, uI_at]
  · rw [e9, uI_nc (by omega), e7, uI_nc (by omega), e6, uI_at]
  · rw [e9, uI_nc (by omega), e7, uI_at]
  · rw [e9, uI_at]
end CS
end PU43
