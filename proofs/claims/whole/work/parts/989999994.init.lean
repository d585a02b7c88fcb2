section PU80
/-! THE START: both sides new -/
theorem s0_9 {S : sSt} {k : sSt → Prop} (h1 : ∀ c b, ¬ (c = 1 ∧ b = 0) → S.1 c b = S0m.1 c b) (h2 : ∀ j, j < 24 → S.1 1 0 (21 + 47 * j) = -1) (h3 : ∀ c, c < 21 → S.1 1 0 c = 0) (hk : ∀ S', (∀ c b, ¬ (c = 1 ∧ b = 0) → S'.1 c b = S0m.1 c b) → (∀ j, j < 24 → S'.1 1 0 (21 + 47 * j) = -1) → (∀ g, g < 6 → S'.1 1 0 (15 + g) = 1) → (∀ c, c < 15 → S'.1 1 0 c = if c = 9 then 5 else if c = 10 then 1 else if c = 11 then 30 else if c = 13 then 3 else 0) → k S') : B_X12_init_139 fuel 0 S k := by
  suffices hh : ∀ r i fu (S1 : sSt), i + r = 6 → r < fu → (∀ c b, ¬ (c = 1 ∧ b = 0) → S1.1 c b = S0m.1 c b) → (∀ j, j < 24 → S1.1 1 0 (21 + 47 * j) = -1) → (∀ g, g < i → S1.1 1 0 (15 + g) = 1) → (∀ c, c < 15 → S1.1 1 0 c = 0) → B_X12_init_139 fu (nI i) S1 k from
    hh 6 0 fuel S (by omega) (fuel_gt (by omega)) h1 h2 (fun g hg => absurd hg (Nat.not_lt_zero g)) (fun c hc => h3 c (by omega))
  intro r
  induction r with
  | zero =>
    intro i fu S1 hi hfu o1 o2 o3 o4
    obtain ⟨fu, rfl⟩ : ∃ z, fu = z + 1 := ⟨fu - 1, by omega⟩
    have e : i = 6 := by omega
    subst e
    simp only [B_X12_init_139_s, Bb_X12_init_139]
    refine ⟨fun _ => ?_, fun q => absurd (show (6 : Int32) ≤ nI 6 from by decide) q⟩
    rintro S3 rfl S4 rfl S5 rfl S6 rfl
    refine hk _ (fun c b z => by rw [uI_other z, uI_other z, uI_other z, uI_other z]; exact o1 c b z) (fun j hj => by rw [uI_nc (by omega), uI_nc (by omega), uI_nc (by omega), uI_nc (by omega)]; exact o2 j hj) (fun g hg => by rw [uI_nc (by omega), uI_nc (by omega), uI_nc (by omega), uI_nc (by omega)]; exact o3 g hg) (fun c hc => ?_)
    by_cases c13 : c = 13
    · subst c13; rw [uI_at]; rfl
    rw [uI_nc (by omega)]
    by_cases c11 : c = 11
    · subst c11; rw [uI_at]; rfl
    rw [uI_nc (by omega)]
    by_cases c10 : c = 10
    · subst c10; rw [uI_at]; rfl
    rw [uI_nc (by omega)]
    by_cases c9 : c = 9
    · subst c9; rw [uI_at]; rfl
    rw [uI_nc (by omega), o4 c hc, if_neg c9, if_neg c10, if_neg c11, if_neg c13]
  | succ r ih =>
    intro i fu S1 hi hfu o1 o2 o3 o4
    obtain ⟨fu, rfl⟩ : ∃ z, fu = z + 1 := ⟨fu - 1, by omega⟩
    simp only [B_X12_init_139_s, Bb_X12_init_139]
    refine ⟨fun q => absurd q (nI_ge (b := 6) (show i < 6 by omega) (by omega)), fun _ => ?_⟩
    rw [na_15, ix_n (by omega) (by omega)]
    rintro S8 rfl x9 rfl
    rw [nI_1]
    refine ih (i + 1) fu _ (by omega) (by omega) (fun c b z => by rw [uI_other z]; exact o1 c b z) (fun j hj => by rw [uI_nc (by omega)]; exact o2 j hj) (fun g hg => ?_) (fun c hc => by rw [uI_nc (by omega)]; exact o4 c hc)
    by_cases e : g = i
    · rw [e, uI_at]
    · rw [uI_nc (by omega)]; exact o3 g (by omega)
theorem s0_init {k : sSt → Prop} (hk : ∀ S', (∀ c b, ¬ (c = 1 ∧ b = 0) → S'.1 c b = S0m.1 c b) → (∀ j, j < 24 → S'.1 1 0 (21 + 47 * j) = -1) → (∀ g, g < 6 → S'.1 1 0 (15 + g) = 1) → (∀ c, c < 15 → S'.1 1 0 c = if c = 9 then 5 else if c = 10 then 1 else if c = 11 then 30 else if c = 13 then 3 else 0) → k S') : F_X12_init2 S0m k := by
  unfold F_X12_init2
  suffices hh : ∀ r i fu (S1 : sSt), i + r = 24 → r < fu → (∀ c b, ¬ (c = 1 ∧ b = 0) → S1.1 c b = S0m.1 c b) → (∀ j, j < i → S1.1 1 0 (21 + 47 * j) = -1) → (∀ c, c < 21 → S1.1 1 0 c = 0) → B_X12_init_103 fu (nI i) S1 k from
    hh 24 0 fuel S0m (by omega) (fuel_gt (by omega)) (fun _ _ _ => rfl) (fun j hj => absurd hj (Nat.not_lt_zero j)) (fun c hc => by
      show (if 1 = 0 ∧ 0 = 0 ∧ c = 13 then (-1 : Int32) else 0) = 0
      exact if_neg (by omega))
  intro r
  induction r with
  | zero =>
    intro i fu S1 hi hfu o1 o2 o3
    obtain ⟨fu, rfl⟩ : ∃ z, fu = z + 1 := ⟨fu - 1, by omega⟩
    have e : i = 24 := by omega
    subst e
    simp only [B_X12_init_103_s, Bb_X12_init_103]
    refine ⟨fun _ => ?_, fun q => absurd (show (24 : Int32) ≤ nI 24 from by decide) q⟩
    exact s0_9 o1 o2 o3 hk
  | succ r ih =>
    intro i fu S1 hi hfu o1 o2 o3
    obtain ⟨fu, rfl⟩ : ∃ z, fu = z + 1 := ⟨fu - 1, by omega⟩
    simp only [B_X12_init_103_s, Bb_X12_init_103]
    refine ⟨fun q => absurd q (nI_ge (b := 24) (show i < 24 by omega) (by omega)), fun _ => ?_⟩
    rw [m_jobAt0, ix_n (by omega) (by omega)]
    rintro S13 rfl
    rw [m_jobAt2, ix_n (by omega) (by omega)]
    rintro S17 rfl x18 rfl
    rw [nI_1]
    refine ih (i + 1) fu _ (by omega) (by omega) (fun c b z => by rw [uI_other z, uI_other z]; exact o1 c b z) (fun j hj => ?_) (fun c hc => by rw [uI_nc (by omega), uI_nc (by omega)]; exact o3 c hc)
    rw [uI_nc (by omega)]
    by_cases e : j = i
    · rw [e, uI_at]
    · rw [uI_nc (by omega)]; exact o2 j (by omega)
theorem s0_ref (t : Nat) : zRef S0c t := by
  have e : ∀ i, S0c.2 14 t i = 24 * t + i := fun i => rfl
  exact ⟨fun i hi => by rw [e]; omega, fun i j _ _ q => by rw [e, e] at q; omega⟩
theorem s0_inv : F_X12_init2 S0m (fun Sm => Inv 0 S0c Sm) := by
  refine s0_init (fun S' h1 h2 h3 h4 => ?_)
  have z : ∀ f, f ≠ 13 → S'.1 0 0 f = 0 := fun f hf => by
    rw [h1 0 0 (by omega)]
    show (if 0 = 0 ∧ 0 = 0 ∧ f = 13 then (-1 : Int32) else 0) = 0
    exact if_neg (by omega)
  have z13 : S'.1 0 0 13 = -1 := by rw [h1 0 0 (by omega)]; rfl
  have hl : ∀ j, j < 24 → lie (S'.1 1 0) j = false := fun j hj => by
    unfold lie num
    rw [h2 j hj]; rfl
  refine Inv.mk (l := 1) (sp := 2) (π := []) (ns := 0) (np := 0) (cm := 0) (nl := 0) ⟨Or.inl ⟨rfl, rfl⟩, rfl, rfl, s0_ref 2, s0_ref 0, ⟨by rw [z 7 (by omega)]; rfl, Or.inl (z 7 (by omega))⟩, by rw [z 1 (by omega)]; rfl, ⟨by rw [z13]; rfl, 0, by omega, rfl, z 9 (by omega), fun x hx => absurd hx (Nat.not_lt_zero x)⟩⟩ ?_ (by omega)
  refine ⟨⟨rfl, s0_ref 1, fun i hi => absurd hi (Nat.not_lt_zero i), ⟨fun f hf => ?_, fun g hg => ?_, fun g hg => ?_⟩, fun s hs => absurd hs (Nat.not_lt_zero s), fun p hp => absurd hp (Nat.not_lt_zero p), ⟨0, by omega, rfl, rfl, fun _ => rfl, fun c hc => absurd hc (Nat.not_lt_zero c)⟩⟩, ⟨fun j => ⟨fun q => absurd q List.not_mem_nil, fun q => ?_⟩, List.Pairwise.nil⟩, ?_, fun s k j hs => absurd hs (Nat.not_lt_zero s)⟩
  · rw [h4 f (by omega), if_neg (by omega), if_neg (by omega), if_neg (by omega), if_neg (by omega)]; rfl
  · rw [h4 (9 + g) (by omega)]
    rcases (show g = 0 ∨ g = 1 ∨ g = 2 ∨ g = 3 ∨ g = 4 by omega) with rfl | rfl | rfl | rfl | rfl <;> rfl
  · rw [h3 g hg]; rfl
  · rw [hl j q.1] at q; exact absurd q.2 (by decide)
  · refine ⟨⟨0, by omega, ?_⟩, ⟨by omega, ?_⟩, ⟨by omega, ?_⟩, ⟨by omega, ?_⟩, ⟨by omega, ?_⟩, fun j hj => Or.inl (h2 j hj), fun a b ha hb q => absurd q (by rw [hl a ha]; decide), fun s hs => absurd hs (Nat.not_lt_zero s), fun p hp => absurd hp (Nat.not_lt_zero p), ⟨0, by omega, ?_⟩, ⟨0, by omega, ?_⟩, ⟨1, by omega, by omega, ?_⟩, ⟨30, by omega, by omega, ?_⟩, ⟨0, by omega, ?_⟩, ⟨3, by omega, by omega, ?_⟩, fun g hg => ⟨1, by omega, by omega, h3 g hg⟩⟩ <;> (rw [h4 _ (by omega)]; rfl)
end PU80
