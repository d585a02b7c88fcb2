section PU49
/-! CALL race: the model's claims -/
section CS
variable {Sc Sc' Sm S' S : sSt} {l sp n t t' : Nat} {w w' : Wd} {π π' : List Nat} {ns np cm nl ns' np' cm' nl' : Nat}
theorem m_claimsIn {r s : Nat} (hr : r < 2) (hs : s < ns) {tc kc : Nat} (ht4 : tc ≤ 4) (hk4 : kc ≤ 4) {all : Nat} (ha : all ≤ 6) (hW : WF w ns np cm nl) (htc : w (1149 + 27 * s + 5) = nI tc) (hkc : w (1149 + 27 * s + 18) = nI kc) (hall : w (1149 + 27 * s + 4) = nI all) {k : sSt → Prop} (hk : ∀ S', S'.1 1 0 = (wcl s tc kc all w).1 → (∀ a b, a ≠ 1 → a ≠ 8 → a ≠ 10 → S'.1 a b = S.1 a b) → (∀ j, j < 24 → S'.1 10 0 (24 * r + j) = if j ∈ (wcl s tc kc all w).2 then nI s else S.1 10 0 (24 * r + j)) → (∀ x, (x < 24 * r ∨ 24 * r + 24 ≤ x) → S'.1 10 0 x = S.1 10 0 x) → k S') : F_X12_claimsIn (nI r) (nI s) (sw S w) k := by
  obtain ⟨whi, wlen⟩ := wcl_hi (tc := tc) (kc := kc) hs all w hW
  have hmem : ∀ m, m < (wcl s tc kc all w).2.length → pl (wcl s tc kc all w).2 m < 24 := fun m hm => ((wcl_ok (np := np) (cm := cm) (nl := nl) (tc := tc) (kc := kc) hs all w hW).2.1 _ (getD_mem hm)).1
  rw [F_X12_claimsIn]
  refine m_claims hs ht4 hk4 ha hW htc hkc hall (fun T g1 g2 g3 => ?_)
  obtain ⟨L, hL⟩ : ∃ L, L = (wcl s tc kc all w).2 := ⟨_, rfl⟩
  rw [← hL] at hk g3 wlen hmem ⊢
  suffices hh : ∀ q i m (S1 : sSt), i + q = L.length → q < m → (∀ a b, ¬ (a = 10 ∧ b = 0) → S1.1 a b = T.1 a b) → (∀ x, (x < 24 * r ∨ 24 * r + 24 ≤ x) → S1.1 10 0 x = S.1 10 0 x) → (∀ j, j < 24 → ((∃ m, m < i ∧ pl L m = j) → S1.1 10 0 (24 * r + j) = nI s) ∧ ((¬ ∃ m, m < i ∧ pl L m = j) → S1.1 10 0 (24 * r + j) = S.1 10 0 (24 * r + j))) → B_X12_claimsIn_9 m (nI r) (nI s) (nI L.length) (nI i) S1 k from
    hh L.length 0 fuel T (by omega) (fuel_gt (by omega)) (fun _ _ _ => rfl) (fun x _ => by rw [g2 10 0 (by omega) (by omega)]) (fun j _ => ⟨fun ⟨m, m1, _⟩ => absurd m1 (Nat.not_lt_zero m), fun _ => by rw [g2 10 0 (by omega) (by omega)]⟩)
  intro q
  induction q with
  | zero =>
    intro i m S1 hi hm o hx hj
    obtain ⟨m, rfl⟩ : ∃ z, m = z + 1 := ⟨m - 1, by omega⟩
    have e : i = L.length := by omega
    subst e
    simp only [B_X12_claimsIn_9_s, Bb_X12_claimsIn_9, nI_leI (show L.length < 2147483648 by omega) (show L.length < 2147483648 by omega), Nat.le_refl, true_implies, not_true_eq_false, false_implies, and_true]
    refine hk S1 (by rw [o 1 0 (by omega)]; exact g1) (fun a b z1 z8 z10 => by rw [o a b (by omega)]; exact g2 a b z1 z8) (fun j hj24 => ?_) hx
    by_cases c : j ∈ L
    · rw [if_pos c]; exact (hj j hj24).1 (mem_pl.mp c)
    · rw [if_neg c]; exact (hj j hj24).2 (fun z => c (mem_pl.mpr z))
  | succ q ih =>
    intro i m S1 hi hm o hx hj
    obtain ⟨m, rfl⟩ : ∃ z, m = z + 1 := ⟨m - 1, by omega⟩
    have h : ¬ nI L.length ≤ nI i := nI_ge (by omega) (by omega)
    have hp := hmem i (by omega)
    have e8 : S1.1 8 0 i = nI (pl L i) := by rw [o 8 0 (by omega)]; exact g3 i (by omega)
    simp only [B_X12_claimsIn_9_s, Bb_X12_claimsIn_9, h, false_implies, true_and, not_false_eq_true, true_implies]
    rw [ix_n (by omega) (by omega), e8, show (24 * nI r + nI (pl L i) : Int32) = nI (24 * r + pl L i) from by rw [show (24 : Int32) = nI 24 from rfl, pk_mul, nI_add], ix_n (by omega) (by omega)]
    rintro S6 e6
    rw [forall_eq, show nI i + 1 = nI (i + 1) from nI_1 i]
    refine ih (i + 1) m S6 (by omega) (by omega) (fun a b z => by rw [e6, uI_other z]; exact o a b z) (fun x hx' => by rw [e6, uI_nc (by omega)]; exact hx x hx') (fun j hj24 => ⟨fun z => ?_, fun z => ?_⟩)
    · by_cases c : j = pl L i
      · rw [c, e6, uI_at]
      · rw [e6, uI_nc (by omega)]
        obtain ⟨m', m1, m2⟩ := z
        refine (hj j hj24).1 ⟨m', ?_, m2⟩
        by_cases d : m' = i
        · rw [d] at m2; exact absurd m2.symm c
        · omega
    · have c : j ≠ pl L i := fun e => z ⟨i, by omega, e.symm⟩
      rw [e6, uI_nc (by omega)]
      exact (hj j hj24).2 (fun ⟨m', m1, m2⟩ => z ⟨m', by omega, m2⟩)
end CS
end PU49
