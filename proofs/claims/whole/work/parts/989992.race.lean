section PU48
/-! CALL race: the class's half -/
section CS
variable {Sc Sc' Sm S' S : sSt} {l sp n t t' : Nat} {w w' : Wd} {π π' : List Nat} {ns np cm nl ns' np' cm' nl' : Nat}
theorem x_startRace {k : sSt → Prop} (hk : ∀ S1, (∀ a b, ¬ (a = 11 ∧ b = 0) → S1.1 a b = S.1 a b) → S1.2 = S.2 → (∀ x, x < 24 → S1.1 11 0 x = -1) → k S1) : F_X0_startRace S k := by
  rw [F_X0_startRace]
  suffices hh : ∀ r i m (S1 : sSt), i + r = 24 → r < m → (∀ a b, ¬ (a = 11 ∧ b = 0) → S1.1 a b = S.1 a b) → S1.2 = S.2 → (∀ x, x < i → S1.1 11 0 x = -1) → B_X0_startRace_2 m (nI i) S1 k from
    hh 24 0 fuel S (by omega) (fuel_gt (by omega)) (fun _ _ _ => rfl) rfl (fun x hx => absurd hx (Nat.not_lt_zero x))
  intro r
  induction r with
  | zero =>
    intro i m S1 hi hm o r2 hx
    obtain ⟨m, rfl⟩ : ∃ z, m = z + 1 := ⟨m - 1, by omega⟩
    have e : i = 24 := by omega
    subst e
    simp only [B_X0_startRace_2_s, Bb_X0_startRace_2, show (24 : Int32) ≤ nI 24 from by decide, true_implies, not_true_eq_false, false_implies, and_true]
    exact hk S1 o r2 hx
  | succ r ih =>
    intro i m S1 hi hm o r2 hx
    obtain ⟨m, rfl⟩ : ∃ z, m = z + 1 := ⟨m - 1, by omega⟩
    have h : ¬ (24 : Int32) ≤ nI i := nI_ge (b := 24) (by omega) (by omega)
    simp only [B_X0_startRace_2_s, Bb_X0_startRace_2, h, false_implies, true_and, not_false_eq_true, true_implies]
    rw [ix_n (by omega) (by omega)]
    rintro S5 e5
    rw [forall_eq, show nI i + 1 = nI (i + 1) from nI_1 i]
    refine ih (i + 1) m S5 (by omega) (by omega) (fun a b z => by rw [e5, uI_other z]; exact o a b z) (by rw [e5]; exact r2) (fun x hx' => ?_)
    by_cases e : x = i
    · rw [e, e5, uI_at]
    · rw [e5, uI_nc (by omega)]; exact hx x (by omega)
/-- who took slot j, first s1 then s2 having claimed -/
def tkr (L1 L2 : List Nat) (s1 s2 j : Nat) : Int32 := if j ∈ L2 then nI s2 else if j ∈ L1 then nI s1 else -1
theorem x_tryBoth (hl : S.2 0 0 4 = l) (hsp : S.2 0 0 5 = sp) (h : zB S l w π ns np cm nl) (hr : zRef S sp) (hne : sp ≠ l) (h11 : ∀ x, x < 24 → S.1 11 0 x = -1) {s1 s2 tc1 kc1 al1 tc2 kc2 al2 : Nat} (hs1 : s1 < ns) (hs2 : s2 < ns) (a1 : tc1 ≤ 4) (a2 : kc1 ≤ 4) (a3 : al1 ≤ 6) (a4 : w (1149 + 27 * s1 + 5) = nI tc1) (a5 : w (1149 + 27 * s1 + 18) = nI kc1) (a6 : w (1149 + 27 * s1 + 4) = nI al1) (b1 : tc2 ≤ 4) (b2 : kc2 ≤ 4) (b3 : al2 ≤ 6) (b4 : (wcl s1 tc1 kc1 al1 w).1 (1149 + 27 * s2 + 5) = nI tc2) (b5 : (wcl s1 tc1 kc1 al1 w).1 (1149 + 27 * s2 + 18) = nI kc2) (b6 : (wcl s1 tc1 kc1 al1 w).1 (1149 + 27 * s2 + 4) = nI al2) {k : sSt → Prop} (hk : ∀ S', KP sp S S' → S'.2 = S.2 → S'.1 12 = S.1 12 → (∀ x, x < 24 → S'.1 11 0 x = if x < π.length then tkr (wcl s1 tc1 kc1 al1 w).2 (wcl s2 tc2 kc2 al2 (wcl s1 tc1 kc1 al1 w).1).2 s1 s2 (pl π x) else -1) → k S') : F_X11_tryBoth (nI s1) (nI s2) S k := by
  rw [F_X11_tryBoth, hl, hsp]
  refine x_copyTable h hr hne (fun S4 c4 k4 r4 q4 => ?_)
  rw [r4, hsp]
  refine x_claimAll c4 hs1 a1 a2 a3 a4 a5 a6 (fun S5 c5 k5 r5 _ _ t5 u5 => ?_)
  rw [r5, r4, hsp]
  refine x_claimAll c5 hs2 b1 b2 b3 b4 b5 b6 (fun S6 c6 k6 r6 _ _ t6 u6 => ?_)
  refine hk S6 (k4.tr (k5.tr k6)) (r6.trans (r5.trans r4)) (u6.trans (u5.trans (q4 12 (by omega) (by omega)))) (fun x hx => ?_)
  rw [t6 x hx, t5 x hx, q4 11 (by omega) (by omega), h11 x hx]
  unfold tkr
  by_cases c : x < π.length
  · by_cases d2 : pl π x ∈ (wcl s2 tc2 kc2 al2 (wcl s1 tc1 kc1 al1 w).1).2 <;> by_cases d1 : pl π x ∈ (wcl s1 tc1 kc1 al1 w).2 <;> simp [c, d1, d2]
  · simp [c]
theorem x_unlike {u v : Nat → Int32} (h1 : ∀ x, x < 24 → S.1 11 0 x = u x) (h2 : ∀ x, x < 24 → S.1 12 0 x = v x) {k : Int32 → sSt → Prop} : F_X0_unlikeTakers S k ↔ k (nI ((List.range' 0 24).countP (fun x => !decide (u x = v x)))) S := by
  rw [F_X0_unlikeTakers]
  refine lp_sum0 (L := fun m c i => B_X0_unlikeTakers_4 m c i S k) (K := fun c => k c S) _ (fuel_gt (by omega)) (fun m c => ?_) (fun m c i hi => ?_)
  · simp only [B_X0_unlikeTakers_4_s, Bb_X0_unlikeTakers_4]
    simp [show (24 : Int32) ≤ nI 24 from by decide]
  · have h : ¬ (24 : Int32) ≤ nI i := nI_ge (b := 24) hi (by omega)
    simp only [B_X0_unlikeTakers_4_s, Bb_X0_unlikeTakers_4, B_X0_unlikeTakers_34, h, false_implies, true_and, not_false_eq_true, true_implies]
    rw [ix_n (by omega) (by omega), h1 i hi, h2 i hi]
    by_cases c : u i = v i <;> simp [c, b2i, nI_1]
end CS
end PU48
