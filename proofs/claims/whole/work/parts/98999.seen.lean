section PU46
/-! CALL: next -/
section CS
variable {Sc Sc' Sm S' S : sSt} {l sp n t t' : Nat} {w w' : Wd} {π π' : List Nat} {ns np cm nl ns' np' cm' nl' : Nat}
theorem inv_spare (hR : zR n Sc Sm l sp) (hB : zB Sc l w π ns np cm nl) (hc : cm ≤ 1300 * n) (hk : KP sp Sc Sc') (h2 : Sc'.2 = Sc.2) (hm : MK Sm S') : Inv (n + 1) Sc' (sw S' w) :=
  Inv.mk (hR.keep (Nat.le_succ n) (K2.s hk) hm.sw (by unfold zRef; rw [h2]; exact hR.2.2.2.1)) (by rw [sw_w]; exact hB.kp (by have := hR.1; omega) hk) (c_le hc)
theorem wcl_hi {s tc kc : Nat} (hs : s < ns) : ∀ n w, WF w ns np cm nl → (∀ x, 1289 ≤ x → (wcl s tc kc n w).1 x = w x) ∧ (wcl s tc kc n w).2.length ≤ n := by
  intro n
  induction n with
  | zero => intro w _; exact ⟨fun _ _ => rfl, Nat.le_refl _⟩
  | succ n ih =>
    intro w hW
    have hn := hW.hns.1
    cases hf : fsto w s tc kc with
    | none => rw [wcl_n hf]; exact ⟨fun _ _ => rfl, Nat.zero_le _⟩
    | some j =>
      obtain ⟨hj, hcn, ho, hst, hl⟩ := fsto_is hW hf
      rw [wcl_s hf]
      obtain ⟨a, b⟩ := ih _ (hW.hold hj hs hl ho (stt_is hst))
      exact ⟨fun x hx => (a x hx).trans (whd_out (by omega) (by omega) (by omega)), by show (_ :: _).length ≤ n + 1; rw [List.length_cons]; omega⟩
theorem m_keepsAll {k : sSt → Prop} (hk : ∀ S1, (∀ a b, ¬ (a = 4 ∧ b = 0) → S1.1 a b = S.1 a b) → (∀ x, x < 1289 → S1.1 4 0 x = S.1 1 0 x) → k S1) : F_X12_keepsAll S k := by
  rw [F_X12_keepsAll]
  suffices hh : ∀ r i m (S1 : sSt), i + r = 1289 → r < m → (∀ a b, ¬ (a = 4 ∧ b = 0) → S1.1 a b = S.1 a b) → (∀ x, x < i → S1.1 4 0 x = S.1 1 0 x) → B_X12_keepsAll_2 m (nI i) S1 k from
    hh 1289 0 fuel S (by omega) (fuel_gt (by omega)) (fun _ _ _ => rfl) (fun x hx => absurd hx (Nat.not_lt_zero x))
  intro r
  induction r with
  | zero =>
    intro i m S1 hi hm o hx
    obtain ⟨m, rfl⟩ : ∃ z, m = z + 1 := ⟨m - 1, by omega⟩
    have e : i = 1289 := by omega
    subst e
    simp only [B_X12_keepsAll_2_s, Bb_X12_keepsAll_2, show (1289 : Int32) ≤ nI 1289 from by decide, true_implies, not_true_eq_false, false_implies, and_true]
    exact hk S1 o hx
  | succ r ih =>
    intro i m S1 hi hm o hx
    obtain ⟨m, rfl⟩ : ∃ z, m = z + 1 := ⟨m - 1, by omega⟩
    have h : ¬ (1289 : Int32) ≤ nI i := nI_ge (b := 1289) (by omega) (by omega)
    simp only [B_X12_keepsAll_2_s, Bb_X12_keepsAll_2, h, false_implies, true_and, not_false_eq_true, true_implies]
    rw [ix_n (by omega) (by omega), ix_n (by omega) (by omega)]
    rintro S5 e5
    rw [forall_eq, show nI i + 1 = nI (i + 1) from nI_1 i]
    refine ih (i + 1) m S5 (by omega) (by omega) (fun a b z => by rw [e5, uI_other z]; exact o a b z) (fun x hx' => ?_)
    by_cases e : x = i
    · rw [e, e5, uI_at, o 1 0 (by omega)]
    · rw [e5, uI_nc (by omega)]; exact hx x (by omega)
theorem m_bringsBack {k : sSt → Prop} (hk : ∀ S1, (∀ a b, ¬ (a = 1 ∧ b = 0) → S1.1 a b = S.1 a b) → (∀ x, x < 1289 → S1.1 1 0 x = S.1 4 0 x) → (∀ x, 1289 ≤ x → S1.1 1 0 x = S.1 1 0 x) → k S1) : F_X12_bringsBack S k := by
  rw [F_X12_bringsBack]
  suffices hh : ∀ r i m (S1 : sSt), i + r = 1289 → r < m → (∀ a b, ¬ (a = 1 ∧ b = 0) → S1.1 a b = S.1 a b) → (∀ x, x < i → S1.1 1 0 x = S.1 4 0 x) → (∀ x, 1289 ≤ x → S1.1 1 0 x = S.1 1 0 x) → B_X12_bringsBack_2 m (nI i) S1 k from
    hh 1289 0 fuel S (by omega) (fuel_gt (by omega)) (fun _ _ _ => rfl) (fun x hx => absurd hx (Nat.not_lt_zero x)) (fun _ _ => rfl)
  intro r
  induction r with
  | zero =>
    intro i m S1 hi hm o hx hy
    obtain ⟨m, rfl⟩ : ∃ z, m = z + 1 := ⟨m - 1, by omega⟩
    have e : i = 1289 := by omega
    subst e
    simp only [B_X12_bringsBack_2_s, Bb_X12_bringsBack_2, show (1289 : Int32) ≤ nI 1289 from by decide, true_implies, not_true_eq_false, false_implies, and_true]
    exact hk S1 o hx hy
  | succ r ih =>
    intro i m S1 hi hm o hx hy
    obtain ⟨m, rfl⟩ : ∃ z, m = z + 1 := ⟨m - 1, by omega⟩
    have h : ¬ (1289 : Int32) ≤ nI i := nI_ge (b := 1289) (by omega) (by omega)
    simp only [B_X12_bringsBack_2_s, Bb_X12_bringsBack_2, h, false_implies, true_and, not_false_eq_true, true_implies]
    rw [ix_n (by omega) (by omega), ix_n (by omega) (by omega)]
    rintro S5 e5
    rw [forall_eq, show nI i + 1 = nI (i + 1) from nI_1 i]
    refine ih (i + 1) m S5 (by omega) (by omega) (fun a b z => by rw [e5, uI_other z]; exact o a b z) (fun x hx' => ?_) (fun x hx' => by rw [e5, uI_nc (by omega)]; exact hy x hx')
    by_cases e : x = i
    · rw [e, e5, uI_at, o 4 0 (by omega)]
    · rw [e5, uI_nc (by omega)]; exact hx x (by omega)
theorem m_claimSeen {s : Nat} (hs : s < ns) {tc kc : Nat} (ht4 : tc ≤ 4) (hk4 : kc ≤ 4) {all : Nat} (ha : all ≤ 6) (hW : WF w ns np cm nl) (htc : w (1149 + 27 * s + 5) = nI tc) (hkc : w (1149 + 27 * s + 18) = nI kc) (hall : w (1149 + 27 * s + 4) = nI all) {k : Int32 → sSt → Prop} (hk : ∀ S', S'.1 1 0 = w → (∀ a b, a ≠ 1 → a ≠ 4 → a ≠ 8 → a ≠ 9 → S'.1 a b = S.1 a b) → (∀ m, m < (wcl s tc kc all w).2.length → S'.1 9 0 m = nI ((wcl s tc kc all w).2.getD m 0)) → k (nI (wcl s tc kc all w).2.length) S') : F_X12_claimSeen (nI s) (sw S w) k := by
  obtain ⟨whi, wlen⟩ := wcl_hi (tc := tc) (kc := kc) hs all w hW
  rw [F_X12_claimSeen]
  refine m_keepsAll (fun T1 o1 x1 => ?_)
  have eT : T1 = sw T1 w := by
    have : T1.1 1 0 = w := by rw [o1 1 0 (by omega), sw_w]
    rw [← this, sw_s]
  rw [eT]
  refine m_claims hs ht4 hk4 ha hW htc hkc hall (fun T2 g1 g2 g3 => ?_)
  refine m_bringsBack (fun T3 o3 x3 y3 => ?_)
  have oT : ∀ a b, a ≠ 1 → a ≠ 4 → a ≠ 8 → T3.1 a b = S.1 a b := fun a b z1 z4 z8 => by
    rw [o3 a b (by omega), g2 a b z1 z8, o1 a b (by omega), sw_o (by omega)]
  have e10 : T3.1 1 0 = w := by
    funext x
    rcases Nat.lt_or_ge x 1289 with c | c
    · rw [x3 x c, g2 4 0 (by omega) (by omega), x1 x c, sw_w]
    · rw [y3 x c, g1]; exact whi x c
  have e8 : ∀ m, m < (wcl s tc kc all w).2.length → T3.1 8 0 m = nI ((wcl s tc kc all w).2.getD m 0) := fun m hm => by rw [o3 8 0 (by omega)]; exact g3 m hm
  obtain ⟨L, hL⟩ : ∃ L, L = (wcl s tc kc all w).2.length := ⟨_, rfl⟩
  rw [← hL] at hk e8 wlen ⊢
  suffices hh : ∀ r i m (S1 : sSt), i + r = L → r < m → (∀ a b, ¬ (a = 9 ∧ b = 0) → S1.1 a b = T3.1 a b) → (∀ x, x < i → S1.1 9 0 x = T3.1 8 0 x) → B_X12_claimSeen_17 m (nI L) (nI i) S1 k from
    hh L 0 fuel T3 (by omega) (fuel_gt (by omega)) (fun _ _ _ => rfl) (fun x hx => absurd hx (Nat.not_lt_zero x))
  intro r
  induction r with
  | zero =>
    intro i m S1 hi hm o hx
    obtain ⟨m, rfl⟩ : ∃ z, m = z + 1 := ⟨m - 1, by omega⟩
    have e : i = L := by omega
    subst e
    simp only [B_X12_claimSeen_17_s, Bb_X12_claimSeen_17, nI_leI (show i < 2147483648 by omega) (show i < 2147483648 by omega), Nat.le_refl, true_implies, not_true_eq_false, false_implies, and_true]
    exact hk S1 (by rw [o 1 0 (by omega)]; exact e10) (fun a b z1 z4 z8 z9 => by rw [o a b (by omega)]; exact oT a b z1 z4 z8) (fun m hm => by rw [hx m hm]; exact e8 m hm)
  | succ r ih =>
    intro i m S1 hi hm o hx
    obtain ⟨m, rfl⟩ : ∃ z, m = z + 1 := ⟨m - 1, by omega⟩
    have h : ¬ nI L ≤ nI i := nI_ge (by omega) (by omega)
    simp only [B_X12_claimSeen_17_s, Bb_X12_claimSeen_17, h, false_implies, true_and, not_false_eq_true, true_implies]
    rw [ix_n (by omega) (by omega)]
    rintro S5 e5
    rw [forall_eq, show nI i + 1 = nI (i + 1) from nI_1 i]
    refine ih (i + 1) m S5 (by omega) (by omega) (fun a b z => by rw [e5, uI_other z]; exact o a b z) (fun x hx' => ?_)
    by_cases e : x = i
    · rw [e, e5, uI_at, o 8 0 (by omega)]
    · rw [e5, uI_nc (by omega)]; exact hx x (by omega)
theorem cs_28 (h : Inv n Sc Sm) {a1 a2 a3 a4 a5 : Int32} {o : Int64} : CS_28 a1 a2 a3 a4 a5 Sc Sm o (fun S1 S2 _ => Inv (n + 1) S1 S2) := by
  obtain ⟨l, sp, π, ns, np, cm, nl, hR, hB, hc⟩ := h
  obtain ⟨w, hw⟩ : ∃ w, w = Sm.1 1 0 := ⟨_, rfl⟩
  have hs : Sm = sw Sm w := by rw [hw, sw_s]
  rw [← hw] at hB
  have hW := hB.2.2.1
  have hn := hW.hns.1
  have m0 : MK Sm (uI Sm 0 0 0 0) := MK.rfl.f (by omega)
  show FW_next a1 a2 Sc o (fun r1 S2 o3 => F_X12_next a1 a2 Sm (tl n r1 S2 o3))
  unfold FW_next F_X11_next
  refine x_needSession hR.2.1 hB (fun s hs' ha => ?_) (fun hno => ⟨fun _ => ?_, fun q => absurd rfl q⟩)
  · obtain ⟨tc, kc, all, t4, k4, al1, al6, htc, hkc, hall⟩ := wf_ses hW hs'
    rw [hR.2.1, hR.2.2.1]
    refine x_copyTable hB hR.2.2.2.1 (by have := hR.1; omega) (fun S6 b6 k6 r6 _ => ?_)
    have l6 : S6.2 0 0 5 = sp := by rw [r6]; exact hR.2.2.1
    rw [l6, ha]
    refine x_claimAll b6 hs' t4 k4 al6 htc hkc hall (fun S9 b9 k9 r9 n9 p9 _ _ => ?_)
    have whi := wcl_hi (tc := tc) (kc := kc) hs' all w hW
    have hI : ∀ T, MK Sm T → T.1 1 0 = w → Inv (n + 1) S9 T := fun T hm hT => by
      have := inv_spare hR hB hc (k6.tr k9) (r9.trans r6) hm
      rw [show sw T w = T from by rw [← hT, sw_s]] at this
      exact this
    have tlk : ∀ T, MK Sm T → T.1 1 0 = w → T.1 0 0 0 = 0 → ∀ r : Int32, tl n 0 S9 r.toInt64 r T := fun T hm hT h0 r => by
      have e : T = sw T w := by rw [← hT, sw_s]
      rw [e]
      exact tl_ok h0 (by rw [← e]; exact hI T hm hT) rfl
    have start : ∀ {kk : Int32 → sSt → Prop}, (∀ T, MK Sm T → T.1 1 0 = w → T.1 0 0 0 = 0 → (∀ m, m < (wcl s tc kc all w).2.length → T.1 9 0 m = nI ((wcl s tc kc all w).2.getD m 0)) → (((!(decide (a2 < 0) || decide (nI (wcl s tc kc all w).2.length - 1 < a2))) = false → kk (-1) T) ∧ ((!(decide (a2 < 0) || decide (nI (wcl s tc kc all w).2.length - 1 < a2))) = true → ix a2 6 (fun j12 => F_X12_numberOf (T.1 9 0 j12) T (fun r13 S14 => kk r13 S14))))) → F_X12_next (nI s) a2 Sm kk := by
      intro kk hq
      rw [hs, F_X12_next]
      rintro S1 rfl
      rw [sw_c (by omega)]
      refine m_needS (fun q => absurd (hasS_of hW hs') (by rw [q]; decide)) (fun _ => ?_)
      refine m_claimSeen hs' t4 k4 al6 hW htc hkc hall (fun T g1 g2 g3 => ?_)
      rw [m_in]
      simp only [b2i_0, Bool.not_eq_false]
      have hmk : MK Sm T := m0.tr ⟨fun f _ _ _ _ => by rw [g2 0 0 (by omega) (by omega) (by omega) (by omega)], g2 2 0 (by omega) (by omega) (by omega) (by omega), g2 6 0 (by omega) (by omega) (by omega) (by omega)⟩
      exact hq T hmk g1 (by rw [g2 0 0 (by omega) (by omega) (by omega) (by omega)]; exact uI_at) g3
    rw [F_X0_pickAt, n9, B_X0_pickAt_12]
    have none_ : ¬ (¬ a2 < 0 ∧ ¬ nI (wcl s tc kc all w).2.length - 1 < a2) → F_X12_next (nI s) a2 Sm (tl n 0 S9 (-1 : Int32).toInt64) := fun q => start (fun T hm hT h0 _ => ⟨fun _ => tlk T hm hT h0 (-1), fun z => absurd (in_b.mp z) q⟩)
    refine ⟨fun c => none_ (fun q => q.1 c), fun c => ⟨fun c2 => ?_, fun c2 => none_ (fun q => ?_)⟩⟩
    · obtain ⟨y, y1, y2⟩ := nI_of c
      rw [y2, nI_ltI y1 (by omega)] at c2
      rw [y2, ix_n (by omega) (by omega), p9 y c2, ← y2]
      refine start (fun T hm hT h0 g3 => ⟨fun z => ?_, fun _ => ?_⟩)
      · have := in_b.mpr (⟨c, fun q => by rw [y2, lt_pred (by omega) y1] at q; omega⟩ : ¬ a2 < 0 ∧ ¬ nI (wcl s tc kc all w).2.length - 1 < a2)
        rw [this] at z; exact absurd z (by decide)
      · rw [y2, ix_n (by omega) (by omega), g3 y c2]
        have hm' := (wcl_ok (np := np) (cm := cm) (nl := nl) (tc := tc) (kc := kc) hs' all w hW).2.1 ((wcl s tc kc all w).2.getD y 0) (by
          rw [List.getD_eq_getElem?_getD, List.getElem?_eq_getElem c2]; exact List.getElem_mem c2)
        rw [m_numberOf hm'.1, hT]
        exact tlk T hm hT h0 _
    · obtain ⟨y, y1, y2⟩ := nI_of c
      rw [y2, nI_ltI y1 (by omega)] at c2
      have := q.2
      rw [y2, lt_pred (by omega) y1] at this
      omega
  · show F_X12_next a1 a2 Sm (tl n 1 Sc o)
    rw [hs, F_X12_next]
    rintro S1 rfl
    rw [sw_c (by omega)]
    exact m_needS (fun _ S' g1 g2 => tl_ex g1 (by decide) (inv_same hR hB hc (m0.tr g2))) (fun q => absurd hno (by rw [q]; decide))
end CS
end PU46
