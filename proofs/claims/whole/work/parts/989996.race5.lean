section PU52
section CS
variable {S : sSt}
theorem x_turnRace {k : sSt → Prop} (hk : ∀ S1, (∀ a b, ¬ (a = 11 ∧ b = 0) → ¬ (a = 12 ∧ b = 0) → S1.1 a b = S.1 a b) → S1.2 = S.2 → (∀ x, x < 24 → S1.1 11 0 x = -1) → (∀ x, x < 24 → S1.1 12 0 x = S.1 11 0 x) → k S1) : F_X0_turnRace S k := by
  rw [F_X0_turnRace]
  rintro S1 e1
  refine x_startRace (fun S2 o r2 hx => hk S2 (fun a b z1 z2 => by rw [o a b z1, e1, uA_other z2]) (by rw [r2, e1]; rfl) hx (fun x hx' => ?_))
  rw [o 12 0 (by omega), e1, uA_row]
  exact cp_0 hx'
end CS
end PU52
