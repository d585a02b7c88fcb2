section PU45
/-! CALLS: image, back -/
section CS
variable {Sc Sc' Sm S' S : sSt} {l sp n t t' : Nat} {w w' : Wd} {π π' : List Nat} {ns np cm nl ns' np' cm' nl' : Nat}
theorem zB.ext (h : zB S t w π ns np cm nl) (hw : ∀ x, x < 10421 → w' x = w x) : zB S t w' π ns np cm nl := by
  have hn := h.2.2.1.hns.1
  refine ⟨⟨h.1.size, h.1.ref, h.1.job.c h.2.1 hn rfl (fun _ _ => rfl) (fun _ _ _ _ => rfl) (fun x _ _ => hw x (by omega)) (fun s _ => hw _ (by omega)) (fun x _ _ => hw x (by omega)), h.1.sca.c (fun _ _ => rfl) rfl rfl (fun x _ _ => hw x (by omega)), h.1.ses.c hn (fun _ _ => rfl) (fun _ _ _ _ _ => rfl) (fun x _ _ => hw x (by omega)), h.1.pln.c h.2.2.1.hnp.1 (fun _ _ => rfl) (fun x _ _ => hw x (by omega)), h.1.log.c h.2.2.1.hnl.1 rfl rfl (fun x _ _ => hw x (by omega))⟩, h.2.1.c (fun j _ => hw _ (by omega)), h.2.2.1.out (hw 2 (by omega)) (fun x _ _ _ _ _ _ => hw x (by omega)), h.2.2.2.c hn (fun j _ => ⟨hw _ (by omega), hw _ (by omega)⟩) (fun s _ => hw _ (by omega)) (fun x _ _ => hw x (by omega))⟩
theorem m_image7 {k : sSt → Prop} (hk : ∀ S1, (∀ a b, ¬ (a = 2 ∧ b = 0) → S1.1 a b = S.1 a b) → (∀ x, x < 10421 → S1.1 2 0 x = S.1 1 0 x) → k (uI S1 0 0 7 1)) : B_X12_image_7 fuel 0 S k := by
  suffices hh : ∀ r i m (S1 : sSt), i + r = 10421 → r < m → (∀ a b, ¬ (a = 2 ∧ b = 0) → S1.1 a b = S.1 a b) → (∀ x, x < i → S1.1 2 0 x = S.1 1 0 x) → B_X12_image_7 m (nI i) S1 k from
    hh 10421 0 fuel S (by omega) (fuel_gt (by omega)) (fun _ _ _ => rfl) (fun x hx => absurd hx (Nat.not_lt_zero x))
  intro r
  induction r with
  | zero =>
    intro i m S1 hi hm o hx
    obtain ⟨m, rfl⟩ : ∃ z, m = z + 1 := ⟨m - 1, by omega⟩
    have e : i = 10421 := by omega
    subst e
    simp only [B_X12_image_7_s, Bb_X12_image_7, show (10421 : Int32) ≤ nI 10421 from by decide, true_implies, not_true_eq_false, false_implies, and_true, forall_eq]
    exact hk S1 o hx
  | succ r ih =>
    intro i m S1 hi hm o hx
    obtain ⟨m, rfl⟩ : ∃ z, m = z + 1 := ⟨m - 1, by omega⟩
    have h : ¬ (10421 : Int32) ≤ nI i := nI_ge (b := 10421) (by omega) (by omega)
    simp only [B_X12_image_7_s, Bb_X12_image_7, h, false_implies, true_and, not_false_eq_true, true_implies]
    rw [ix_n (by omega) (by omega)]
    rintro S5 e5
    rw [forall_eq, show nI i + 1 = nI (i + 1) from nI_1 i]
    refine ih (i + 1) m S5 (by omega) (by omega) (fun a b z => by rw [e5, uI_other z]; exact o a b z) (fun x hx' => ?_)
    by_cases e : x = i
    · rw [e, e5, uI_at, o 1 0 (by omega)]
    · rw [e5, uI_nc (by omega)]; exact hx x (by omega)
theorem m_back16 {k : Int32 → sSt → Prop} (hk : ∀ S1, (∀ a b, ¬ (a = 1 ∧ b = 0) → S1.1 a b = S.1 a b) → (∀ x, x < 10421 → S1.1 1 0 x = S.1 2 0 x) → k 1 S1) : B_X12_back_16 fuel 0 S k := by
  suffices hh : ∀ r i m (S1 : sSt), i + r = 10421 → r < m → (∀ a b, ¬ (a = 1 ∧ b = 0) → S1.1 a b = S.1 a b) → (∀ x, x < i → S1.1 1 0 x = S.1 2 0 x) → B_X12_back_16 m (nI i) S1 k from
    hh 10421 0 fuel S (by omega) (fuel_gt (by omega)) (fun _ _ _ => rfl) (fun x hx => absurd hx (Nat.not_lt_zero x))
  intro r
  induction r with
  | zero =>
    intro i m S1 hi hm o hx
    obtain ⟨m, rfl⟩ : ∃ z, m = z + 1 := ⟨m - 1, by omega⟩
    have e : i = 10421 := by omega
    subst e
    simp only [B_X12_back_16_s, Bb_X12_back_16, show (10421 : Int32) ≤ nI 10421 from by decide, true_implies, not_true_eq_false, false_implies, and_true]
    exact hk S1 o hx
  | succ r ih =>
    intro i m S1 hi hm o hx
    obtain ⟨m, rfl⟩ : ∃ z, m = z + 1 := ⟨m - 1, by omega⟩
    have h : ¬ (10421 : Int32) ≤ nI i := nI_ge (b := 10421) (by omega) (by omega)
    simp only [B_X12_back_16_s, Bb_X12_back_16, h, false_implies, true_and, not_false_eq_true, true_implies]
    rw [ix_n (by omega) (by omega)]
    rintro S5 e5
    rw [forall_eq, show nI i + 1 = nI (i + 1) from nI_1 i]
    refine ih (i + 1) m S5 (by omega) (by omega) (fun a b z => by rw [e5, uI_other z]; exact o a b z) (fun x hx' => ?_)
    by_cases e : x = i
    · rw [e, e5, uI_at, o 2 0 (by omega)]
    · rw [e5, uI_nc (by omega)]; exact hx x (by omega)
theorem cs_42 (h : Inv n Sc Sm) {a1 a2 a3 a4 a5 : Int32} {o : Int64} : CS_42 a1 a2 a3 a4 a5 Sc Sm o (fun S1 S2 _ => Inv (n + 1) S1 S2) := by
  obtain ⟨l, sp, π, ns, np, cm, nl, hR, hB, hc⟩ := h
  obtain ⟨h1, h2, h3, h4, h5, ⟨i1, i2⟩, h7, ⟨t1, L, t2, t3, t4, t5⟩⟩ := hR
  show F_X11_image Sc (fun S2 => F_X12_image Sm (fun S4 => Inv (n + 1) S2 S4))
  rw [F_X11_image, h2]
  refine x_copyTable hB h5 (show 0 ≠ l by omega) (fun S3 b3 k3 r3 _ => ?_)
  rintro S4 rfl
  rw [F_X12_image]
  rintro T1 rfl
  refine m_image7 (fun T2 o2 x2 => ?_)
  have om : ∀ a b, ¬ (a = 2 ∧ b = 0) → ¬ (a = 0 ∧ b = 0) → (uI T2 0 0 7 1).1 a b = Sm.1 a b := fun a b z1 z2 => by rw [uI_other z2, o2 a b z1, uI_other z2]
  have om0 : ∀ f, f ≠ 0 → f ≠ 7 → (uI T2 0 0 7 1).1 0 0 f = Sm.1 0 0 f := fun f z1 z2 => by rw [uI_nc (by omega), o2 0 0 (by omega), uI_nc (by omega)]
  have oc : ∀ f, f ≠ 6 → (uI S3 0 0 6 1).1 0 0 f = Sc.1 0 0 f := fun f z => by rw [uI_nc (by omega), k3.1 0 0 (by unfold ow; omega)]
  have oc1 : ∀ a, 1 ≤ a → a ≤ 2 → (uI S3 0 0 6 1).1 a 0 = Sc.1 a 0 := fun a z1 z2 => by rw [uI_other (by omega), k3.1 a 0 (by unfold ow; omega)]
  have e10 : (uI T2 0 0 7 1).1 1 0 = Sm.1 1 0 := om 1 0 (by omega) (by omega)
  refine ⟨l, sp, π, ns, np, cm, nl, ⟨h1, ?_, ?_, ?_, ?_, ⟨?_, Or.inr ⟨uI_at, π, ns, np, cm, nl, ?_, c_le hc⟩⟩, ?_, ⟨?_, L, t2, ?_, ?_, fun x hx => ?_⟩⟩, ?_, c_le hc⟩
  · show S3.2 0 0 4 = l; rw [r3]; exact h2
  · show S3.2 0 0 5 = sp; rw [r3]; exact h3
  · unfold zRef; show (∀ i, i < 24 → S3.2 14 sp i / 24 = sp) ∧ _; rw [show (uI S3 0 0 6 1).2 = Sc.2 from r3, r3]; exact h4
  · unfold zRef; show (∀ i, i < 24 → S3.2 14 0 i / 24 = 0) ∧ _; rw [show (uI S3 0 0 6 1).2 = Sc.2 from r3, r3]; exact h5
  · rw [uI_at, uI_at]
  · refine b3.f0.ext (fun x hx => ?_)
    rw [uI_other (by omega), x2 x hx, uI_other (by omega)]
  · rw [oc 7 (by omega), om0 1 (by omega) (by omega)]; exact h7
  · rw [oc1 1 (by omega) (by omega), om0 13 (by omega) (by omega)]; exact t1
  · rw [oc1 1 (by omega) (by omega)]; exact t3
  · rw [om0 9 (by omega) (by omega)]; exact t4
  · rw [oc1 2 (by omega) (by omega), om 6 0 (by omega) (by omega)]; exact t5 x hx
  · rw [e10]; exact (hB.kp (show l ≠ 0 by omega) k3).f0
theorem cs_43 (h : Inv n Sc Sm) {a1 a2 a3 a4 a5 : Int32} {o : Int64} : CS_43 a1 a2 a3 a4 a5 Sc Sm o (fun S1 S2 _ => Inv (n + 1) S1 S2) := by
  obtain ⟨l, sp, π, ns, np, cm, nl, hR, hB, hc⟩ := h
  obtain ⟨w, hw⟩ : ∃ w, w = Sm.1 1 0 := ⟨_, rfl⟩
  have hs : Sm = sw Sm w := by rw [hw, sw_s]
  rw [← hw] at hB
  have m0 : MK Sm (uI Sm 0 0 0 0) := MK.rfl.f (by omega)
  have hR' := hR
  obtain ⟨h1, h2, h3, h4, h5, ⟨i1, i2⟩, h7, -⟩ := hR'
  show F_X11_back Sc (fun r1 S2 => F_X12_back Sm (tq n S2 r1))
  rw [F_X11_back, h2, i1]
  have e7 : (uI Sm 0 0 0 0).1 0 0 7 = Sm.1 0 0 7 := uI_nc (by omega)
  refine ⟨fun c => ?_, fun c => ?_⟩
  · rcases i2 with i2 | ⟨i2, π2, ns2, np2, cm2, nl2, hB2, hc2⟩
    · exact absurd i2 c
    · refine x_copyTable hB2 hB.1.ref (show l ≠ 0 by omega) (fun S4 b4 k4 r4 _ => ?_)
      rw [F_X12_back]
      rintro T1 rfl
      rw [e7]
      refine ⟨fun _ => ?_, fun q => absurd q c⟩
      refine m_back16 (fun T2 o2 x2 => ?_)
      have eT : T2 = sw T2 (T2.1 1 0) := by rw [sw_s]
      rw [eT]
      have hb : zB S4 l (T2.1 1 0) π2 ns2 np2 cm2 nl2 := b4.ext (fun x hx => by rw [x2 x hx, uI_other (by omega)])
      refine tq_ok (inv_upd hR hb (c_le hc2) k4 (by rw [r4]) ⟨fun f z1 _ _ _ => by rw [o2 0 0 (by omega), uI_nc (by omega)], by rw [o2 2 0 (by omega), uI_other (by omega)], by rw [o2 6 0 (by omega), uI_other (by omega)]⟩) rfl
  · rw [F_X12_back]
    rintro T1 rfl
    rw [e7]
    refine ⟨fun q => absurd c q, fun _ => ?_⟩
    rw [hs, sw_c (by omega)]
    exact tq_ok (inv_same hR hB hc m0) rfl
end CS
end PU45
