section PU21
/-! CALLS: finish, give, retry, claim, commit -/
section CS
variable {Sc Sc' Sm S' : sSt} {l sp n : Nat} {w w' : Wd} {π π' : List Nat} {ns np cm nl ns' np' cm' nl' : Nat}
theorem wact_out {s x : Nat} (hO : zOrd w π) (hs : s < 4) (h : x < 14) : wact w π s x = w x := by
  unfold wact
  split
  · rfl
  · unfold wcom
    rw [wcls_out (by omega) (by omega)]
    exact (wcs_ok (s := nI s) π w (fun j hj => ⟨hO.lt hj, hO.lies hj⟩)).2.2 x (by omega) (by omega) (by omega)
theorem cs_13 (h : Inv n Sc Sm) {a1 a2 a3 a4 a5 : Int32} {o : Int64} : CS_13 a1 a2 a3 a4 a5 Sc Sm o (fun S1 S2 _ => Inv (n + 1) S1 S2) := by
  obtain ⟨l, sp, π, ns, np, cm, nl, hR, hB, hc⟩ := h
  obtain ⟨w, hw⟩ : ∃ w, w = Sm.1 1 0 := ⟨_, rfl⟩
  have hs : Sm = sw Sm w := by rw [hw, sw_s]
  rw [← hw] at hB
  have hn := hB.2.2.1.hns.1
  have hW := hB.2.2.1
  unfold CS_13 FW_finish F_X11_finish
  refine x_lockHeld hR.2.1 hB (fun hno => ?_) (fun i s hi hs' ha hnm hse hwy => ?_) (fun i s hi hs' ha hnm hse hwy S2 q2 => ?_)
  · refine ⟨fun _ => ?_, fun q => absurd rfl q⟩
    show F_X12_finish _ _ _ _ _
    rw [hs, F_X12_finish]
    refine m_held hW (fun _ S' g1 g2 => ?_) (fun j s hj hs ha hnm hse _ => (no_job hno hW hj hs ha hnm hse).elim) (fun j s hj hs ha hnm hse _ => (no_job hno hW hj hs ha hnm hse).elim)
    rw [F_X12_thrown]
    exact cs_end (by rw [sw_o (by omega)]; exact g1) (fun q => absurd q (by decide)) (inv_same hR hB hc g2)
  · refine ⟨fun q => absurd q (by decide), fun _ => ⟨fun _ => ?_, fun q => absurd rfl q⟩⟩
    show F_X12_finish _ _ _ _ _
    rw [hs, F_X12_finish]
    refine m_held hW (fun hno => (no_job hno hW (hB.2.1.at hi) hs' ha hnm hse).elim) (fun j s1 hj hs1 ha1 hnm1 hse1 hwy1 S' g1 g2 => ?_) (fun j s1 hj hs1 ha1 hnm1 hse1 hwy1 => ?_)
    · obtain rfl := same_ses hW hs1 hs' ha1 ha
      obtain rfl := same_job hW hj (hB.2.1.at hi) hnm1 hnm hse1
      rw [F_X12_thrown]
      exact cs_end (by rw [sw_o (by omega)]; exact g1) (fun q => absurd q (by decide)) (inv_why hR hB hc g2)
    · obtain rfl := same_ses hW hs1 hs' ha1 ha
      obtain rfl := same_job hW hj (hB.2.1.at hi) hnm1 hnm hse1
      exact absurd hwy1 hwy
  · have hst : wlk w (pl π i) (nI s) (21 + 47 * pl π i + 25 + 3) = 1 := by rw [wlk_ver (by omega) (whyH_oth hwy).1 (by omega)]; exact (whyH_oth hwy).2
    intro S6 e6
    have q6 := q2.state (x := 2) (by omega) (fun q => absurd (hst.symm.trans q) (by decide)) e6 rfl
    have hl6 : S6.2 0 0 4 = l := by rw [q6.2.1.2.1]; exact hR.2.1
    rw [hl6, ha]
    refine x_closeAct q6.1 hs' (fun S9 nl' b9 k9 => ?_)
    have ans : S9.1 22 (6 * Sc.2 14 l i + 1) 2 = va_up (wlk w (pl π i) (nI s)) (21 + 47 * pl π i + 25 + 3) (nI 2) (21 + 47 * pl π i + 25 + 6) := by
      rw [k9.2.2.2.1]
      exact q6.rown (f := 6) (by omega)
    show F_X12_finish _ _ _ _ _
    rw [ans, hs, F_X12_finish, ← ha]
    refine m_held hW (fun hno => (no_job hno hW (hB.2.1.at hi) hs' ha hnm hse).elim) (fun j s1 hj hs1 ha1 hnm1 hse1 hwy1 => ?_) (fun j s1 hj hs1 ha1 hnm1 hse1 hwy1 S' g1 g2 => ?_)
    · obtain rfl := same_ses hW hs1 hs' ha1 ha
      obtain rfl := same_job hW hj (hB.2.1.at hi) hnm1 hnm hse1
      exact absurd hwy hwy1
    · obtain rfl := same_ses hW hs1 hs' ha1 ha
      obtain rfl := same_job hW hj (hB.2.1.at hi) hnm1 hnm hse1
      rw [ha1, m_locks hj]
      simp only [forall_eq, na_3, na_6]
      rw [ix_n (by omega) (by omega)]
      simp only [forall_eq, sw_i, sw_w]
      rw [ix_n (by omega) (by omega)]
      refine m_isDone q6.1.2.1 q6.1.2.2.1 hs' ?_
      rw [F_X12_thrown]
      have hI := inv_upy hR b9 (c_le hc) (q6.2.1.1.tr k9.1) (k9.2.1.trans q6.2.1.2.1) g2
      exact ⟨fun _ => ⟨fun _ => hI, fun _ => ⟨fun _ => hI, fun q => q rfl⟩⟩, fun q => q (by rw [sw_o (by omega)]; exact g1)⟩
theorem cs_15 (h : Inv n Sc Sm) {a1 a2 a3 a4 a5 : Int32} {o : Int64} : CS_15 a1 a2 a3 a4 a5 Sc Sm o (fun S1 S2 _ => Inv (n + 1) S1 S2) := by
  obtain ⟨l, sp, π, ns, np, cm, nl, hR, hB, hc⟩ := h
  obtain ⟨w, hw⟩ : ∃ w, w = Sm.1 1 0 := ⟨_, rfl⟩
  have hs : Sm = sw Sm w := by rw [hw, sw_s]
  rw [← hw] at hB
  have hn := hB.2.2.1.hns.1
  have hW := hB.2.2.1
  unfold CS_15 FW_give F_X11_give
  refine x_lockHeld hR.2.1 hB (fun hno => ?_) (fun i s hi hs' ha hnm hse hwy => ?_) (fun i s hi hs' ha hnm hse hwy S2 q2 => ?_)
  · refine ⟨fun _ => ?_, fun q => absurd rfl q⟩
    show F_X12_give _ _ _ _ _
    rw [hs, F_X12_give]
    refine m_held hW (fun _ S' g1 g2 => ?_) (fun j s hj hs ha hnm hse _ => (no_job hno hW hj hs ha hnm hse).elim) (fun j s hj hs ha hnm hse _ => (no_job hno hW hj hs ha hnm hse).elim)
    rw [F_X12_thrown]
    exact cs_end (by rw [sw_o (by omega)]; exact g1) (fun q => absurd q (by decide)) (inv_same hR hB hc g2)
  · refine ⟨fun q => absurd q (by decide), fun _ => ⟨fun _ => ?_, fun q => absurd rfl q⟩⟩
    show F_X12_give _ _ _ _ _
    rw [hs, F_X12_give]
    refine m_held hW (fun hno => (no_job hno hW (hB.2.1.at hi) hs' ha hnm hse).elim) (fun j s1 hj hs1 ha1 hnm1 hse1 hwy1 S' g1 g2 => ?_) (fun j s1 hj hs1 ha1 hnm1 hse1 hwy1 => ?_)
    · obtain rfl := same_ses hW hs1 hs' ha1 ha
      obtain rfl := same_job hW hj (hB.2.1.at hi) hnm1 hnm hse1
      rw [F_X12_thrown]
      exact cs_end (by rw [sw_o (by omega)]; exact g1) (fun q => absurd q (by decide)) (inv_why hR hB hc g2)
    · obtain rfl := same_ses hW hs1 hs' ha1 ha
      obtain rfl := same_job hW hj (hB.2.1.at hi) hnm1 hnm hse1
      exact absurd hwy1 hwy
  · have hst : wlk w (pl π i) (nI s) (21 + 47 * pl π i + 25 + 3) = 1 := by rw [wlk_ver (by omega) (whyH_oth hwy).1 (by omega)]; exact (whyH_oth hwy).2
    obtain ⟨mo, hmo, hmo'⟩ := hW.mono
    have hm2 : wlk w (pl π i) (nI s) 3 = nI mo := by rw [wlk_out (by omega)]; exact hmo'
    intro S3 e3
    have q3 := q2.state (x := 0) (by omega) (fun q => absurd (hst.symm.trans q) (by decide)) e3 rfl
    have hl3 : S3.2 0 0 4 = l := by rw [q3.2.1.2.1]; exact hR.2.1
    rw [hl3]
    intro S6 e6
    have em : S3.1 13 l 10 = nI mo := (q3.1.1.sca.1 3 (by omega)).trans (by rw [up_ne (by omega)]; exact hm2)
    have q6 := q3.due (x := mo) (by omega) e6 em
    have hl6 : S6.2 0 0 4 = l := by rw [q6.2.1.2.1]; exact hR.2.1
    rw [hl6, ha]
    refine x_closeAct q6.1 hs' (fun S9 nl' b9 k9 => ?_)
    have hl9 : S9.2 0 0 4 = l := by rw [k9.2.1]; exact hl6
    have em9 : S9.1 13 (S9.2 0 0 4) 10 = nI mo := by
      rw [hl9]
      refine (b9.1.sca.1 3 (by omega)).trans ?_
      rw [wact_out q6.1.2.1 (by omega) (by omega), up_ne (by omega), up_ne (by omega)]
      exact hm2
    have ans : S9.1 22 (6 * Sc.2 14 l i + 1) 7 - S9.1 13 (S9.2 0 0 4) 10 = va_up (va_up (wlk w (pl π i) (nI s)) (21 + 47 * pl π i + 25 + 3) (nI 0)) (21 + 47 * pl π i + 25 + 5) (nI mo) (21 + 47 * pl π i + 25 + 10) - nI mo := by
      rw [em9, k9.2.2.2.1]
      exact congrArg (· - nI mo) (q6.rown (f := 10) (by omega))
    show F_X12_give _ _ _ _ _
    rw [ans, hs, F_X12_give, ← ha]
    refine m_held hW (fun hno => (no_job hno hW (hB.2.1.at hi) hs' ha hnm hse).elim) (fun j s1 hj hs1 ha1 hnm1 hse1 hwy1 => ?_) (fun j s1 hj hs1 ha1 hnm1 hse1 hwy1 S' g1 g2 => ?_)
    · obtain rfl := same_ses hW hs1 hs' ha1 ha
      obtain rfl := same_job hW hj (hB.2.1.at hi) hnm1 hnm hse1
      exact absurd hwy hwy1
    · obtain rfl := same_ses hW hs1 hs' ha1 ha
      obtain rfl := same_job hW hj (hB.2.1.at hi) hnm1 hnm hse1
      rw [ha1, m_locks hj]
      simp only [forall_eq, na_3, na_5, na_10]
      rw [ix_n (by omega) (by omega)]
      simp only [forall_eq, sw_i, sw_w]
      rw [ix_n (by omega) (by omega)]
      rw [ix_n (by omega) (by omega)]
      have e3w : va_up (wlk w (pl π i) (nI s)) (21 + 47 * pl π i + 25 + 3) 0 3 = nI mo := by rw [up_ne (by omega)]; exact hm2
      rw [e3w]
      refine m_isDone q6.1.2.1 q6.1.2.2.1 hs' ?_
      rw [F_X12_thrown, show va_up (va_up (wlk w (pl π i) (nI s)) (21 + 47 * pl π i + 25 + 3) 0) (21 + 47 * pl π i + 25 + 5) (nI mo) 3 = nI mo from by rw [up_ne (by omega)]; exact e3w]
      have hI := inv_upy hR b9 (c_le hc) (q6.2.1.1.tr k9.1) (k9.2.1.trans q6.2.1.2.1) g2
      exact ⟨fun _ => ⟨fun _ => hI, fun _ => ⟨fun _ => hI, fun q => q rfl⟩⟩, fun q => q (by rw [sw_o (by omega)]; exact g1)⟩
theorem wf_ses (hW : WF w ns np cm nl) {s : Nat} (hs : s < ns) : ∃ tc kc all, tc ≤ 4 ∧ kc ≤ 4 ∧ 1 ≤ all ∧ all ≤ 6 ∧ w (1149 + 27 * s + 5) = nI tc ∧ w (1149 + 27 * s + 18) = nI kc ∧ w (1149 + 27 * s + 4) = nI all := by
  obtain ⟨_, _, _, ⟨a, a1, a2, a3⟩, ⟨b, b1, b2⟩, ⟨c, c1, c2⟩⟩ := hW.ses s hs
  exact ⟨b, c, a, b1, c1, a1, a2, b2, c2, a3⟩
/-- the model's head of a call that needs a session -/
theorem m_needS {S : sSt} {a c : Int32} {k0 : sSt → Prop} {kb : sSt → Prop} (h0 : hasS w a = false → ∀ S', S'.1 0 0 0 = c → MK S S' → k0 (sw S' w)) (h1 : hasS w a = true → kb (sw S w)) : F_X12_noSession a (sw S w) (fun r2 S3 => F_X12_throwsIf r2 c S3 (fun r4 S5 => ((r4 = 0 → kb S5) ∧ (¬ r4 = 0 → k0 S5)))) := by
  rw [m_noSession, sw_w, m_throwsIf]
  cases c1 : hasS w a
  · refine ⟨fun q => absurd q (by decide), fun _ => ?_⟩
    simp only [Bool.not_false, if_true]
    rw [sw_c (by omega)]
    exact h0 c1 _ uI_at (MK.rfl.f (by omega))
  · refine ⟨fun _ => ?_, fun q => absurd rfl q⟩
    simpa using h1 c1
theorem cs_11 (h : Inv n Sc Sm) {a1 a2 a3 a4 a5 : Int32} {o : Int64} : CS_11 a1 a2 a3 a4 a5 Sc Sm o (fun S1 S2 _ => Inv (n + 1) S1 S2) := by
  obtain ⟨l, sp, π, ns, np, cm, nl, hR, hB, hc⟩ := h
  obtain ⟨w, hw⟩ : ∃ w, w = Sm.1 1 0 := ⟨_, rfl⟩
  have hs : Sm = sw Sm w := by rw [hw, sw_s]
  rw [← hw] at hB
  have hn := hB.2.2.1.hns.1
  have hW := hB.2.2.1
  have m0 : MK Sm (uI Sm 0 0 0 0) := MK.rfl.f (by omega)
  unfold CS_11 FW_claim F_X11_claim
  refine x_needSession hR.2.1 hB (fun s hs' ha => ?_) (fun hno => ?_)
  · obtain ⟨tc, kc, all, t4, k4, al1, al6, htc, hkc, hall⟩ := wf_ses hW hs'
    rw [hR.2.1, ha]
    refine x_claimAll hB hs' t4 k4 al6 htc hkc hall (fun S5 b5 p5 r5 n5 _ _ _ => ?_)
    have hl5 : S5.2 0 0 4 = l := by rw [r5]; exact hR.2.1
    rw [hl5]
    refine x_closeAct b5 hs' (fun S8 nl' b8 k8 => ?_)
    have ans : S8.1 9 0 3 = nI (wcl s tc kc all w).2.length := by rw [k8.2.2.1 9 (by omega) (by omega)]; exact n5
    show F_X12_claim _ _ _
    rw [ans, hs, F_X12_claim]
    rintro S1 rfl
    rw [sw_c (by omega)]
    refine m_needS (fun q => absurd (hasS_of hW hs') (by rw [q]; decide)) (fun _ => ?_)
    refine m_claims hs' t4 k4 al6 hW htc hkc hall (fun S' g1 g2 _ => ?_)
    have e' : S' = sw S' (wcl s tc kc all w).1 := by rw [← g1, sw_s]
    rw [e']
    refine m_isDone b5.2.1 b5.2.2.1 hs' ?_
    rw [F_X12_thrown]
    have hI := inv_upd hR b8 (c_le hc) (p5.tr k8.1) (by rw [k8.2.1, r5]) (m0.tr (MK.of g2))
    exact ⟨fun _ => ⟨fun _ => hI, fun _ => ⟨fun _ => hI, fun q => q rfl⟩⟩, fun q => q (by rw [sw_o (by omega), g2 0 0 (by omega) (by omega)]; exact uI_at)⟩
  · refine ⟨fun _ => ?_, fun q => absurd rfl q⟩
    show F_X12_claim _ _ _
    rw [hs, F_X12_claim]
    rintro S1 rfl
    rw [sw_c (by omega)]
    refine m_needS (fun _ S' g1 g2 => ?_) (fun q => absurd hno (by rw [q]; decide))
    rw [F_X12_thrown]
    exact cs_end (by rw [sw_o (by omega)]; exact g1) (fun q => absurd q (by decide)) (inv_same hR hB hc (m0.tr g2))
/-- as m_needS, the roads told the other way round -/
theorem m_needS' {S : sSt} {a c : Int32} {k0 : sSt → Prop} {kb : sSt → Prop} (h0 : hasS w a = false → ∀ S', S'.1 0 0 0 = c → MK S S' → k0 (sw S' w)) (h1 : hasS w a = true → kb (sw S w)) : F_X12_noSession a (sw S w) (fun r2 S3 => F_X12_throwsIf r2 c S3 (fun r4 S5 => ((¬ r4 = 0 → k0 S5) ∧ (r4 = 0 → kb S5)))) := by
  have := m_needS (kb := kb) (k0 := k0) h0 h1
  simp only [m_noSession, sw_w, m_throwsIf] at this ⊢
  exact ⟨this.2, this.1⟩
theorem mk_refuse {S : sSt} {r : Int32} : MK (uI S 0 0 1 r) (uI (uI (uI S 0 0 0 0) 0 0 1 r) 0 0 0 2) := by
  refine ⟨fun f _ _ _ _ => ?_, ?_, ?_⟩
  · rw [uI_nc (by omega)]
    by_cases e : f = 1
    · rw [e, uI_at, uI_at]
    · rw [uI_nc (by omega), uI_nc (by omega), uI_nc (by omega)]
  · rw [uI_other (by omega), uI_other (by omega), uI_other (by omega), uI_other (by omega)]
  · rw [uI_other (by omega), uI_other (by omega), uI_other (by omega), uI_other (by omega)]
theorem mk_well {S : sSt} {r : Int32} : MK (uI S 0 0 1 r) (uI (uI S 0 0 0 0) 0 0 1 r) := by
  refine ⟨fun f _ _ _ _ => ?_, ?_, ?_⟩
  · by_cases e : f = 1
    · rw [e, uI_at, uI_at]
    · rw [uI_nc (by omega), uI_nc (by omega), uI_nc (by omega)]
  · rw [uI_other (by omega), uI_other (by omega), uI_other (by omega)]
  · rw [uI_other (by omega), uI_other (by omega), uI_other (by omega)]
theorem x_settleOpen (hl : Sc.2 0 0 4 = l) (h : zB Sc l w π ns np cm nl) {s : Nat} (hs : s < ns) {k : sSt → Prop} {kx : String → sSt → Prop} (h1 : opn w s = true → k (uI Sc 0 0 7 0)) (h0 : opn w s = false → kx "java/lang/IllegalStateException" (uI Sc 0 0 7 1)) : F_X11_settleOpen (nI s) Sc k kx := by
  have hn := h.2.2.1.hns.1
  rw [F_X11_settleOpen, ix_n (by omega) (by omega), hl]
  have e3 : Sc.1 24 (4 * l + s) 3 = w (1149 + 27 * s + 2) := (h.1.ses s hs).2.2.1
  rw [e3, B_X11_settleOpen_21, B_X11_settleOpen_21, F_X11_settle, F_X11_settle]
  have ho := (h.2.2.1.ses s hs).1
  refine ⟨fun c => ?_, fun c => ?_⟩
  · rintro S1 rfl
    exact ⟨fun q => absurd q (by decide), fun _ => h0 (by unfold opn; rw [c]; rfl)⟩
  · rintro S1 rfl
    exact ⟨fun _ => h1 (by unfold opn; rw [ho.resolve_left c]; rfl), fun q => absurd rfl q⟩
theorem cs_9 (h : Inv n Sc Sm) {a1 a2 a3 a4 a5 : Int32} {o : Int64} : CS_9 a1 a2 a3 a4 a5 Sc Sm o (fun S1 S2 _ => Inv (n + 1) S1 S2) := by
  obtain ⟨l, sp, π, ns, np, cm, nl, hR, hB, hc⟩ := h
  obtain ⟨w, hw⟩ : ∃ w, w = Sm.1 1 0 := ⟨_, rfl⟩
  have hs : Sm = sw Sm w := by rw [hw, sw_s]
  rw [← hw] at hB
  have hn := hB.2.2.1.hns.1
  have hW := hB.2.2.1
  have m0 : MK Sm (uI Sm 0 0 0 0) := MK.rfl.f (by omega)
  unfold CS_9 FW_commit F_X11_commit
  refine x_needSession hR.2.1 hB (fun s hs' ha => ?_) (fun hno => ?_)
  · rw [ha]
    refine x_settleOpen hR.2.1 hB hs' (fun hop => ?_) (fun hop => ?_)
    · rw [show (uI Sc 0 0 7 0).2 0 0 4 = l from hR.2.1]
      refine x_commitAll hB.f0 hs' (fun S7 nl' b7 k7 => ?_)
      show F_X12_commit _ _ _
      rw [hs, F_X12_commit]
      rintro S1 rfl
      rw [sw_c (by omega)]
      refine m_needS' (fun q => absurd (hasS_of hW hs') (by rw [q]; decide)) (fun _ => ?_)
      rw [m_isOpen (by omega), sw_w, hop]
      refine ⟨fun q => absurd q (by decide), fun _ => ?_⟩
      rw [B_X12_commit_32, m_refuses, if_pos rfl]
      refine ⟨fun _ => ?_, fun q => absurd rfl q⟩
      refine m_isCommitted hB.2.1 hW hs' ?_
      rw [F_X12_thrown]
      have hI := inv_upy hR b7 (c_le hc) k7.1 k7.2.1 (mk_well (S := Sm) (r := 0))
      exact ⟨fun _ => ⟨fun _ => hI, fun _ => ⟨fun _ => hI, fun q => q rfl⟩⟩, fun q => q (by rw [sw_o (by omega), uI_nc (by omega)]; exact uI_at)⟩
    · refine ⟨fun q => absurd q (by decide), fun _ => ⟨fun _ => ?_, fun q => absurd rfl q⟩⟩
      show F_X12_commit _ _ _
      rw [hs, F_X12_commit]
      rintro S1 rfl
      rw [sw_c (by omega)]
      refine m_needS' (fun q => absurd (hasS_of hW hs') (by rw [q]; decide)) (fun _ => ?_)
      rw [m_isOpen (by omega), sw_w, hop]
      refine ⟨fun _ => ?_, fun q => absurd rfl q⟩
      rw [B_X12_commit_32, m_refuses, if_neg (by decide)]
      refine ⟨fun q => absurd q (by decide), fun _ => ?_⟩
      rw [F_X12_thrown]
      exact cs_end (by rw [sw_o (by omega)]; exact uI_at) (fun q => absurd q (by decide)) (inv_why hR hB hc mk_refuse)
  · refine ⟨fun _ => ?_, fun q => absurd rfl q⟩
    show F_X12_commit _ _ _
    rw [hs, F_X12_commit]
    rintro S1 rfl
    rw [sw_c (by omega)]
    refine m_needS' (fun _ S' g1 g2 => ?_) (fun q => absurd hno (by rw [q]; decide))
    rw [F_X12_thrown]
    exact cs_end (by rw [sw_o (by omega)]; exact g1) (fun q => absurd q (by decide)) (inv_same hR hB hc (m0.tr g2))
end CS
end PU21
