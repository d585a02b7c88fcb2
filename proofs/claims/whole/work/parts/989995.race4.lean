section PU51
section CS
variable {Sc Sc' Sm S' S : sSt} {w w' : Wd}
theorem m_race75 {u v : Nat → Int32} (h1 : ∀ x, x < 24 → S.1 10 0 x = u x) (h2 : ∀ x, x < 24 → S.1 10 0 (24 + x) = v x) {k : Int32 → sSt → Prop} : B_X12_raceOf_75 fuel 0 0 S k ↔ k (nI ((List.range' 0 24).countP (fun x => !decide (u x = v x)))) S := by
  refine lp_sum0 (L := fun m c i => B_X12_raceOf_75 m c i S k) (K := fun c => k c S) _ (fuel_gt (by omega)) (fun m c => ?_) (fun m c i hi => ?_)
  · simp only [B_X12_raceOf_75_s, Bb_X12_raceOf_75]
    simp [show (24 : Int32) ≤ nI 24 from by decide]
  · have h : ¬ (24 : Int32) ≤ nI i := nI_ge (b := 24) hi (by omega)
    simp only [B_X12_raceOf_75_s, Bb_X12_raceOf_75, B_X12_raceOf_108, h, false_implies, true_and, not_false_eq_true, true_implies]
    rw [ix_n (by omega) (by omega), show (24 + nI i : Int32) = nI (24 + i) from by rw [show (24 : Int32) = nI 24 from rfl, nI_add], ix_n (by omega) (by omega), h1 i hi, h2 i hi]
    by_cases c : u i = v i <;> simp [c, b2i, nI_1]
theorem m_race2 {a1 a2 : Int32} {k : Int32 → sSt → Prop} (hk : ∀ S1, (∀ a b, ¬ (a = 10 ∧ b = 0) → S1.1 a b = S.1 a b) → (∀ x, x < 48 → S1.1 10 0 x = -1) → B_X12_raceOf_23 fuel a1 a2 0 S1 k) : F_X12_raceOf a1 a2 S k := by
  rw [F_X12_raceOf]
  suffices hh : ∀ r i m (S1 : sSt), i + r = 48 → r < m → (∀ a b, ¬ (a = 10 ∧ b = 0) → S1.1 a b = S.1 a b) → (∀ x, x < i → S1.1 10 0 x = -1) → B_X12_raceOf_2 m a1 a2 (nI i) S1 k from
    hh 48 0 fuel S (by omega) (fuel_gt (by omega)) (fun _ _ _ => rfl) (fun x hx => absurd hx (Nat.not_lt_zero x))
  intro r
  induction r with
  | zero =>
    intro i m S1 hi hm o hx
    obtain ⟨m, rfl⟩ : ∃ z, m = z + 1 := ⟨m - 1, by omega⟩
    have e : i = 48 := by omega
    subst e
    simp only [B_X12_raceOf_2_s, Bb_X12_raceOf_2, show (48 : Int32) ≤ nI 48 from by decide, true_implies, not_true_eq_false, false_implies, and_true]
    exact hk S1 o hx
  | succ r ih =>
    intro i m S1 hi hm o hx
    obtain ⟨m, rfl⟩ : ∃ z, m = z + 1 := ⟨m - 1, by omega⟩
    have h : ¬ (48 : Int32) ≤ nI i := nI_ge (b := 48) (by omega) (by omega)
    simp only [B_X12_raceOf_2_s, Bb_X12_raceOf_2, h, false_implies, true_and, not_false_eq_true, true_implies]
    rw [ix_n (by omega) (by omega)]
    rintro S5 e5
    rw [forall_eq, show nI i + 1 = nI (i + 1) from nI_1 i]
    refine ih (i + 1) m S5 (by omega) (by omega) (fun a b z => by rw [e5, uI_other z]; exact o a b z) (fun x hx' => ?_)
    by_cases e : x = i
    · rw [e, e5, uI_at]
    · rw [e5, uI_nc (by omega)]; exact hx x (by omega)
end CS
end PU51
