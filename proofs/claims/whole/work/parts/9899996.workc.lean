section PU62
/-! CALL work -/
section CS
variable {Sc Sc' Sm S S' : sSt} {w : Wd} {d : Nat → Nat → Nat} {I : Nat → Bool} {β : Nat → Nat} {t j l sp n ns np cm nl mo u : Nat} {π : List Nat}
theorem wd_x (h : zB S t w π ns np cm nl) {hh : Nat} (h4 : hh ≤ 4) : WX w (wd w hh) (fun j => decide (j < 24) && wI w j) π hh := by
  have hD := wd_ok h.2.2.1 hh
  refine ⟨h.2.1, ⟨hD.1, fun j hj q => hD.2 j hj ?_⟩, rfl, h4, fun j hj => ?_⟩
  · rw [Bool.and_eq_true] at q; exact q.2
  · show (decide (j < 24) && wI w j) = false
    rw [decide_eq_false (show ¬ j < 24 by omega), Bool.false_and]
/-- so many steps, and no computer shall count them -/
noncomputable def wN : Nat := Classical.choose (⟨100000, rfl⟩ : ∃ n : Nat, n = 100000)
theorem wN_e : wN = 100000 := Classical.choose_spec (⟨100000, rfl⟩ : ∃ n : Nat, n = 100000)
def wb1 (w : Wd) (j : Nat) : Nat := if (decide (j < 24) && wI w j) = true then 1 else 0
theorem wb_01 (j : Nat) : wb1 w j = 0 ∨ wb1 w j = 1 := by
  unfold wb1; split
  · exact Or.inr rfl
  · exact Or.inl rfl
theorem wb_I (j : Nat) (h : wb1 w j ≠ 0) : (decide (j < 24) && wI w j) = true := by
  unfold wb1 at h
  cases c : (decide (j < 24) && wI w j)
  · rw [c, if_neg (by decide)] at h; exact absurd rfl h
  · rfl
theorem wb_bt : btm (wb1 w) u := fun j hj => by have := wb_01 (w := w) j; omega
/-- how long, or when that one begins: what both say -/
noncomputable def wan (w : Wd) (hh mo j0 : Nat) (a2 : Int32) : Int32 := if a2 = -1 then nI (sim (wd w hh) wN mo (wb1 w) mo).2 else bv ((sim (wd w hh) wN mo (wb1 w) mo).1 j0)
theorem x_timeOf (h : zB S t w π ns np cm nl) (hm : w 3 = nI mo) (hmo : mo ≤ 9999) {hh : Nat} (h1 : 1 ≤ hh) (h4 : hh ≤ 4) {a2 : Int32} {j0 : Nat} (hj0 : a2 ≠ -1 → ∀ j, j < 24 → lie w j = true → (num w j = a2 ↔ j = j0)) (hj24 : j0 < 24) {k : Int32 → sSt → Prop} (hk : ∀ S', KP t S S' → S'.2 = S.2 → k (wan w hh mo j0 a2) S') : F_X10_timeOf t (nI hh) a2 S k := by
  have hW := h.2.2.1
  have hlen := h.2.1.len
  obtain ⟨b4, b0, b9, bd⟩ := wd_b hW hh
  rw [F_X10_timeOf]
  refine x_prepare (u := mo) (hh := hh) h hm (fun S1 c1 r1 k1 e1 => ?_)
  rw [c1.2.1]
  rintro x3 rfl
  have c1' : WC S1 t π (wd w hh) (fun j => decide (j < 24) && wI w j) mo := ⟨c1.1, c1.2.1, c1.2.2.1, fun i hi => ⟨(c1.2.2.2 i hi).1, fun q => (c1.2.2.2 i hi).2 (by rw [Bool.and_eq_true] at q; exact q.2)⟩⟩
  have r1' : WR S1 t π (wd w hh) (wb1 w) mo := fun i hi => by
    have e : wb1 w (pl π i) = wb0 w (pl π i) := by
      unfold wb1 wb0
      rw [decide_eq_true (h.2.1.at hi), Bool.true_and]
    rw [e]
    exact r1 i hi
  refine x_steps (wd_x h h4) hj0 hj24 (fun j _ hl => lie_n hl) hmo b9 wN 0 fuel S1 (wb1 w) mo mo (by rw [wN_e]) (by rw [wN_e]; exact fuel_gt (by omega)) (by omega) (by omega) (h.1.ref.k e1) c1' r1' wb_bt wb_I (fun _ => by have := wb_01 (w := w) j0; omega) ?_ (fun S' g1 g2 => by rw [Nat.add_zero]; exact hk S' (k1.tr g1) (g2.trans e1))
  rw [Nat.add_zero]
  exact all_in (by exact h1) b4 b0 b9 bd wb_bt (by rw [wN_e]; omega)
theorem m_worksAll (hW : WF w ns np cm nl) (hm : w 3 = nI mo) (hmo : mo ≤ 9999) {hh : Nat} (h1 : 1 ≤ hh) (h4 : hh ≤ 4) {π : List Nat} (hO : zOrd w π) {k : Int32 → sSt → Prop} (hk : ∀ S', (∀ j, j < 24 → S'.1 11 0 j = bv ((sim (wd w hh) wN mo (wb1 w) mo).1 j)) → (∀ a b, ¬ (a = 11 ∧ b = 0) → S'.1 a b = S.1 a b) → k (nI (sim (wd w hh) wN mo (wb1 w) mo).2) (sw S' w)) : F_X12_worksAll (nI hh) (sw S w) k := by
  have hD0 := wd_ok hW hh
  have hD : WDF w (wd w hh) (fun j => decide (j < 24) && wI w j) := ⟨hD0.1, fun j hj q => hD0.2 j hj (by rw [Bool.and_eq_true] at q; exact q.2)⟩
  obtain ⟨b4, b0, b9, bd⟩ := wd_b hW hh
  have hend : ∀ j, j < 24 → (sim (wd w hh) wN mo (wb1 w) mo).1 j ≠ 1 := all_in (by exact h1) b4 b0 b9 bd wb_bt (by rw [wN_e]; omega)
  have esim : sim (wd w hh) (1000000 - mo) mo (wb1 w) mo = sim (wd w hh) wN mo (wb1 w) mo := by
    rw [show 1000000 - mo = wN + (900000 - mo) from by rw [wN_e]; omega, sim_add, sim_no hend]
  rw [F_X12_worksAll]
  suffices hl : ∀ r i m (S1 : sSt), i + r = 24 → r < m → (∀ a b, ¬ (a = 11 ∧ b = 0) → S1.1 a b = S.1 a b) → (∀ x, x < i → S1.1 11 0 x = bv (wb1 w x)) → B_X12_worksAll_2 m (nI hh) (nI i) (sw S1 w) k from
    hl 24 0 fuel S (by omega) (fuel_gt (by omega)) (fun _ _ _ => rfl) (fun x hx => absurd hx (Nat.not_lt_zero x))
  intro r
  induction r with
  | zero =>
    intro i m S1 hi hm' o hx
    obtain ⟨m, rfl⟩ : ∃ z, m = z + 1 := ⟨m - 1, by omega⟩
    have e : i = 24 := by omega
    subst e
    simp only [B_X12_worksAll_2_s, Bb_X12_worksAll_2]
    refine ⟨fun _ => ?_, fun q => absurd (show (24 : Int32) ≤ nI 24 from by decide) q⟩
    rw [sw_w, hm]
    rintro x2 rfl x3 rfl
    refine m_sim hD h4 rfl (1000000 - mo) mo fuel S1 (wb1 w) mo (by omega) (fuel_gt (by omega)) (by omega) wb_bt (fun j hj => ⟨hx j hj, wb_I j, by have := wb_01 (w := w) j; omega⟩) (fun S' g1 g2 => ?_)
    rw [esim] at g1 ⊢
    exact hk S' (fun j hj => (g1 j hj).1) (fun a b z => (g2 a b z).trans (o a b z))
  | succ r ih =>
    intro i m S1 hi hm' o hx
    obtain ⟨m, rfl⟩ : ∃ z, m = z + 1 := ⟨m - 1, by omega⟩
    have hi4 : i < 24 := by omega
    have h : ¬ (24 : Int32) ≤ nI i := nI_ge (b := 24) hi4 (by omega)
    have next : ∀ v, v = bv (wb1 w i) → B_X12_worksAll_44 (fun a1 a2 S => B_X12_worksAll_2 m a1 a2 S k) (nI hh) (nI i) (nI i) v (sw S1 w) k := by
      intro v hv
      rw [B_X12_worksAll_44, ix_n (by omega) (by omega)]
      rintro S5 e5 x26 rfl
      rw [sw_c (by omega)] at e5
      rw [e5, nI_1]
      refine ih (i + 1) m _ (by omega) (by omega) (fun a b z => by rw [uI_other z]; exact o a b z) (fun x hx' => ?_)
      by_cases e : x = i
      · rw [e, uI_at]; exact hv
      · rw [uI_nc (by omega)]; exact hx x (by omega)
    simp only [B_X12_worksAll_2_s, Bb_X12_worksAll_2, B_X12_worksAll_43, h, false_implies, true_and, not_false_eq_true, true_implies]
    rw [m_isIn hi4, sw_w]
    simp only [b2i_0, Bool.not_eq_false]
    have eb : wb1 w i = if wI w i = true then 1 else 0 := by unfold wb1; rw [decide_eq_true hi4, Bool.true_and]
    refine ⟨fun c => next _ ?_, fun c => ?_⟩
    · have : ¬ wI w i = true := fun q => by unfold wI at q; rw [c, Bool.false_and] at q; exact absurd q (by decide)
      rw [eb, if_neg this]; rfl
    · rw [m_jobAt3, na_3, ix_n (by omega) (by omega), sw_w]
      refine ⟨fun c2 => next _ ?_, fun c2 => next _ ?_⟩
      · have : ¬ wI w i = true := fun q => by
          unfold wI at q
          rw [decide_eq_true c2] at q
          simp at q
        rw [eb, if_neg this]; rfl
      · have : wI w i = true := by unfold wI; rw [c, decide_eq_false c2]; rfl
        rw [eb, if_pos this]; rfl
theorem cs_34 (h : Inv n Sc Sm) {a1 a2 a3 a4 a5 : Int32} {o : Int64} : CS_34 a1 a2 a3 a4 a5 Sc Sm o (fun S1 S2 _ => Inv (n + 1) S1 S2) := by
  obtain ⟨l, sp, π, ns, np, cm, nl, hR, hB, hc⟩ := h
  obtain ⟨w, hw⟩ : ∃ w, w = Sm.1 1 0 := ⟨_, rfl⟩
  have hs : Sm = sw Sm w := by rw [hw, sw_s]
  rw [← hw] at hB
  have hW := hB.2.2.1
  obtain ⟨mo, hmo, emo⟩ := hW.mono
  have m0 : MK Sm (uI Sm 0 0 0 0) := MK.rfl.f (by omega)
  show FW_work a1 a2 Sc o (fun r1 S2 o3 => F_X12_work a1 a2 Sm (tl n r1 S2 o3))
  unfold FW_work F_X11_work
  have st : ∀ {kk : Int32 → sSt → Prop}, ((¬ a1 < 1 ∧ ¬ 4 < a1) → B_X12_work_20 a1 a2 0 (sw (uI Sm 0 0 0 0) w) kk) → (¬ (¬ a1 < 1 ∧ ¬ 4 < a1) → B_X12_work_20 a1 a2 1 (sw (uI Sm 0 0 0 0) w) kk) → F_X12_work a1 a2 Sm kk := by
    intro kk q1 q2
    rw [hs, F_X12_work]
    rintro S1 rfl
    rw [sw_c (by omega), m_in]
    simp only [b2i_0, Bool.not_eq_false]
    exact ⟨fun c => q1 (in_b.mp c), fun c => q2 (fun z => by rw [in_b.mpr z] at c; exact absurd c (by decide))⟩
  have bad : ¬ (¬ a1 < 1 ∧ ¬ 4 < a1) → F_X12_work a1 a2 Sm (tl n 1 Sc o) := fun q => by
    refine st (fun z => absurd z q) (fun _ => ?_)
    rw [B_X12_work_20, m_throws1, sw_c (by omega)]
    exact ⟨fun z => absurd z (by decide), fun _ => tl_ex uI_at (by decide) (inv_same hR hB hc (m0.f (by omega)))⟩
  have bad2 : ¬ (¬ a1 < 1 ∧ ¬ 4 < a1) → B_X11_work_10 Sc (fun r S1 => F_X12_work a1 a2 Sm (tl n 0 S1 r.toInt64)) (fun E S1 => (E = "java/lang/IllegalArgumentException" → F_X12_work a1 a2 Sm (tl n 1 S1 o)) ∧ (¬ E = "java/lang/IllegalArgumentException" → (E = "java/lang/IndexOutOfBoundsException" → F_X12_work a1 a2 Sm (tl n 2 S1 o)) ∧ (¬ E = "java/lang/IndexOutOfBoundsException" → False))) := fun q => by
    rw [B_X11_work_10]
    exact ⟨fun _ => bad q, fun z => absurd rfl z⟩
  refine ⟨fun c => bad2 (fun z => z.1 c), fun c => ⟨fun c2 => ?_, fun c2 => bad2 (fun z => z.2 (Int32.not_le.mp c2))⟩⟩
  have hin : ¬ a1 < 1 ∧ ¬ 4 < a1 := ⟨c, Int32.not_lt.mpr c2⟩
  obtain ⟨hh, hh4, ehh⟩ := nI_of2 (M := 4) (n := 4) rfl (fun z => c (Int32.lt_trans z (by decide))) c2
  have hh1 : 1 ≤ hh := by
    rw [ehh, show (1 : Int32) = nI 1 from rfl, nI_ltI (by omega) (by omega)] at c; omega
  have st2 : ∀ {kk : Int32 → sSt → Prop}, ((¬ a2 = -1 → F_X12_jobOf a2 (sw (uI Sm 0 0 0 0) w) (fun r9 S10 => B_X12_work_43 a1 a2 r9 S10 kk)) ∧ (a2 = -1 → B_X12_work_43 a1 a2 (-1) (sw (uI Sm 0 0 0 0) w) kk)) → F_X12_work a1 a2 Sm kk := by
    intro kk hq
    refine st (fun _ => ?_) (fun z => absurd hin z)
    rw [B_X12_work_20, m_throws0]
    exact ⟨fun _ => hq, fun z => absurd rfl z⟩
  -- the class's road, and the model's after it
  have good : ∀ (j0 : Nat) (a3' : Int32), j0 < 24 → (a2 ≠ -1 → a3' = nI j0) → (a2 ≠ -1 → ∀ j, j < 24 → lie w j = true → (num w j = a2 ↔ j = j0)) → (∀ {kk : Int32 → sSt → Prop}, B_X12_work_67 a1 a2 a3' (sw (uI Sm 0 0 0 0) w) kk → F_X12_work a1 a2 Sm kk) → ∀ kx : String → sSt → Prop, B_X11_work_30 a1 a2 Sc (fun r S1 => F_X12_work a1 a2 Sm (tl n 0 S1 r.toInt64)) kx := by
    intro j0 a3' hj24 ha3 hj0 hst kx
    rw [B_X11_work_30, hR.2.1, hR.2.2.1]
    refine x_copyTable hB hR.2.2.2.1 (by have := hR.1; omega) (fun S6 b6 k6 r6 _ => ?_)
    have l6 : S6.2 0 0 5 = sp := by rw [r6]; exact hR.2.2.1
    rw [l6, ehh]
    refine x_timeOf b6 emo hmo hh1 hh4 hj0 hj24 (fun S9 k9 r9 => ?_)
    rw [← ehh]
    refine hst ?_
    rw [B_X12_work_67, B_X12_work_68, m_throws0]
    refine ⟨fun _ => ?_, fun z => absurd rfl z⟩
    rw [ehh]
    refine m_worksAll hW emo hmo hh1 hh4 hB.2.1 (fun T g1 g2 => ?_)
    have hmk : MK Sm T := m0.tr ⟨fun f _ _ _ _ => by rw [g2 0 0 (by omega)], g2 2 0 (by omega), g2 6 0 (by omega)⟩
    have h00 : T.1 0 0 0 = 0 := by rw [g2 0 0 (by omega)]; exact uI_at
    have hI := inv_spare hR hB hc (k6.tr k9) (r9.trans r6) hmk
    refine ⟨fun q => ?_, fun q => ?_⟩
    · rw [ha3 q, ix_n (by omega) (by omega), sw_o (show ¬ ((11 : Nat) = 1 ∧ (0 : Nat) = 0) by omega), g1 j0 hj24]
      exact tl_ok h00 hI (by unfold wan; rw [if_neg q])
    · exact tl_ok h00 hI (by unfold wan; rw [if_pos q])
  refine ⟨fun q => ?_, fun q => ?_⟩
  · refine good 0 (-1) (by omega) (fun z => absurd q z) (fun z => absurd q z) (fun {kk} hq => st2 ⟨fun z => absurd q z, fun _ => ?_⟩) _
    rw [B_X12_work_43]
    exact ⟨fun _ => hq, fun z => absurd q z⟩
  · refine x_needJob hR.2.1 hB (fun i hi hnm hse => ?_) (fun hno => ?_)
    · have hj4 := hB.2.1.at hi
      have hle := sees_lie hse
      have uniq : ∀ j, j < 24 → lie w j = true → (num w j = a2 ↔ j = pl π i) := fun j hj hl => ⟨fun z => hW.one j _ hj hj4 hl (z.trans hnm.symm), fun z => by rw [z]; exact hnm⟩
      have hin2 : isin w (pl π i) = true := by
        have := hse
        unfold sees mine at this
        simp at this
        exact this.2
      refine good (pl π i) (nI (pl π i)) hj4 (fun _ => rfl) (fun _ => uniq) (fun {kk} hq => st2 ⟨fun _ => ?_, fun z => absurd z q⟩) _
      refine m_jobOf hW (fun j hj hn hl => ?_) (fun z => ?_)
      · rw [(uniq j hj hl).mp hn, B_X12_work_43]
        refine ⟨fun z => absurd z q, fun _ => ⟨fun z => absurd z (ni_m1 (by omega)), fun _ => ?_⟩⟩
        rw [m_isIn hj4, sw_w, hin2]
        exact ⟨fun _ => hq, fun z => absurd z (by decide)⟩
      · have := z _ hj4 hnm
        rw [hle] at this; exact absurd this (by decide)
    · refine ⟨fun z => absurd z (by decide), fun _ => ⟨fun _ => st2 ⟨fun _ => ?_, fun z => absurd z q⟩, fun z => absurd rfl z⟩⟩
      have out : ∀ r, B_X12_work_63 a1 a2 r (sw (uI Sm 0 0 0 0) w) (tl n 2 Sc o) := fun r => by
        rw [B_X12_work_63, B_X12_work_68, m_throws1, sw_c (by omega)]
        exact ⟨fun z => absurd z (by decide), fun _ => tl_ex uI_at (by decide) (inv_same hR hB hc (m0.f (by omega)))⟩
      refine m_jobOf hW (fun j hj hn hl => ?_) (fun z => ?_)
      · rw [B_X12_work_43]
        refine ⟨fun z => absurd z q, fun _ => ⟨fun _ => out _, fun _ => ?_⟩⟩
        have hno' := hno j hj hn
        have hin2 : isin w j = false := by
          unfold sees mine at hno'
          rw [hl] at hno'
          simpa using hno'
        rw [m_isIn hj, sw_w, hin2]
        exact ⟨fun z => absurd rfl z, fun _ => out _⟩
      · rw [B_X12_work_43]
        exact ⟨fun z => absurd z q, fun _ => ⟨fun _ => out _, fun z => absurd rfl z⟩⟩
end CS
end PU62
