section PU25
/-! CALLS: fail, retry -/
theorem m_throws1 {S : sSt} {c : Int32} {k : Int32 → sSt → Prop} : F_X12_throwsIf 1 c S k ↔ k 1 (uI S 0 0 0 c) := by
  have := @m_throwsIf S true c k; rw [b2i_t, if_pos rfl] at this; exact this
theorem m_throws0 {S : sSt} {c : Int32} {k : Int32 → sSt → Prop} : F_X12_throwsIf 0 c S k ↔ k 0 S := by
  have := @m_throwsIf S false c k; rw [b2i_f] at this; simpa using this
/-- what is asked at the end of a call that may throw -/
def tl (n : Nat) (r1 : Int32) (S2 : sSt) (o3 : Int64) (r4 : Int32) (S5 : sSt) : Prop := F_X12_thrown S5 (fun r6 S7 => ((r6 = r1 → ((¬ r1 = 0 → Inv (n + 1) S2 S7) ∧ (r1 = 0 → ((o3 = r4.toInt64 → Inv (n + 1) S2 S7) ∧ (¬ o3 = r4.toInt64 → False))))) ∧ (¬ r6 = r1 → False)))
section CS
variable {Sc Sc' Sm S' : sSt} {l sp n : Nat} {w w' : Wd} {π π' : List Nat} {ns np cm nl ns' np' cm' nl' : Nat}
theorem tl_ok {r4 : Int32} (h1 : S'.1 0 0 0 = 0) (hI : Inv (n + 1) Sc (sw S' w)) {r : Int32} (hr : r = r4) : tl n 0 Sc r.toInt64 r4 (sw S' w) := by
  rw [tl, F_X12_thrown]
  exact cs_end (by rw [sw_o (by omega)]; exact h1) (fun _ => by rw [hr]) hI
theorem tl_ex {r1 r4 : Int32} {o : Int64} (h1 : S'.1 0 0 0 = r1) (h0 : r1 ≠ 0) (hI : Inv (n + 1) Sc (sw S' w)) : tl n r1 Sc o r4 (sw S' w) := by
  rw [tl, F_X12_thrown]
  exact cs_end (by rw [sw_o (by omega)]; exact h1) (fun q => absurd q h0) hI
theorem wf_lim (hW : WF w ns np cm nl) : ∃ B C L, B ≤ 9 ∧ C ≤ 99 ∧ L ≤ 9 ∧ w 10 = nI B ∧ w 11 = nI C ∧ w 13 = nI L := by
  obtain ⟨B, _, b2, b3⟩ := hW.base
  obtain ⟨C, _, c2, c3⟩ := hW.cap
  obtain ⟨L, _, l2, l3⟩ := hW.lim
  exact ⟨B, C, L, b2, c2, l2, b3, c3, l3⟩
theorem mk_refuse3 {S : sSt} {r : Int32} {c : Int32} : MK (uI S 0 0 1 r) (uI (uI (uI S 0 0 0 0) 0 0 1 r) 0 0 0 c) := by
  refine ⟨fun f _ _ _ _ => ?_, ?_, ?_⟩
  · rw [uI_nc (by omega)]
    by_cases e : f = 1
    · rw [e, uI_at, uI_at]
    · rw [uI_nc (by omega), uI_nc (by omega), uI_nc (by omega)]
  · rw [uI_other (by omega), uI_other (by omega), uI_other (by omega), uI_other (by omega)]
  · rw [uI_other (by omega), uI_other (by omega), uI_other (by omega), uI_other (by omega)]
theorem cs_14 (h : Inv n Sc Sm) {a1 a2 a3 a4 a5 : Int32} {o : Int64} : CS_14 a1 a2 a3 a4 a5 Sc Sm o (fun S1 S2 _ => Inv (n + 1) S1 S2) := by
  obtain ⟨l, sp, π, ns, np, cm, nl, hR, hB, hc⟩ := h
  obtain ⟨w, hw⟩ : ∃ w, w = Sm.1 1 0 := ⟨_, rfl⟩
  have hs : Sm = sw Sm w := by rw [hw, sw_s]
  rw [← hw] at hB
  have hn := hB.2.2.1.hns.1
  have hW := hB.2.2.1
  have m0 : MK Sm (uI Sm 0 0 0 0) := MK.rfl.f (by omega)
  show FW_fail a1 a2 a3 a4 Sc o (fun r1 S2 o3 => F_X12_fail a1 a2 a3 a4 Sm (tl n r1 S2 o3))
  unfold FW_fail F_X11_fail
  -- no such session, or job
  have bad : ((∀ j, j < 24 → num w j = a2 → sees w j a1 = false) ∨ hasS w a1 = false) → F_X12_fail a1 a2 a3 a4 Sm (tl n 1 Sc o) := by
    intro hno
    rw [hs, F_X12_fail]
    refine m_ownJobFor hW (fun j s hj hs ha hnm hse => (no_job hno hW hj hs ha hnm hse).elim) (fun _ S' g1 g2 => ⟨fun _ => ?_, fun q => absurd rfl q⟩)
    exact tl_ex g1 (by decide) (inv_same hR hB hc g2)
  refine x_needSession hR.2.1 hB (fun s hs' ha => ?_) (fun q => ⟨fun _ => bad (Or.inr q), fun q => absurd rfl q⟩)
  refine x_needJob hR.2.1 hB (fun i hi hnm hse => ?_) (fun q => ⟨fun _ => bad (Or.inl q), fun q => absurd rfl q⟩)
  rw [ha] at hse
  have hj4 := hB.2.1.at hi
  -- the cause is none
  have badc : (a4 < 0 ∨ 5 < a4) → F_X12_fail a1 a2 a3 a4 Sm (tl n 2 Sc o) := by
    intro hcz
    rw [hs, F_X12_fail]
    refine m_ownJobFor hW (fun j s1 hj hs1 ha1 hnm1 hse1 => ⟨fun q => absurd q (ni_m1 (by omega)), fun _ => ?_⟩) (fun hno => (no_job hno hW hj4 hs' ha hnm hse).elim)
    rw [m_in]
    have : (!(decide (a4 < 0) || decide (5 < a4))) = false := by
      rcases hcz with q | q <;> simp [q]
    rw [this]
    refine ⟨fun q => absurd rfl q, fun _ => ?_⟩
    rw [B_X12_fail_30, m_throws1, sw_c (by omega)]
    refine ⟨fun _ => ?_, fun q => absurd q (by decide)⟩
    exact tl_ex uI_at (by decide) (inv_same hR hB hc (m0.f (by omega)))
  refine ⟨fun c => ?_, fun c => ⟨fun c2 => ?_, fun c2 => ?_⟩⟩
  · rw [B_X11_fail_23]
    exact ⟨fun z => absurd z (by decide), fun _ => ⟨fun _ => badc (Or.inl c), fun z => absurd rfl z⟩⟩
  · obtain ⟨cc, hcc, hcc'⟩ := nI_of2 (M := 5) (n := 5) rfl c c2
    have hin : (!(decide (a4 < 0) || decide (5 < a4))) = true := by
      have : ¬ (5 : Int32) < a4 := Int32.not_lt.mpr c2
      simp [c, this, -Int32.not_lt]
    obtain ⟨B, C, L, hB9, hC99, hL9, eB, eC, eL⟩ := wf_lim hW
    refine x_lockHeld hR.2.1 hB (fun hno => (no_job hno hW hj4 hs' ha hnm hse).elim) (fun i1 s1 hi1 hs1 ha1 hnm1 hse1 hwy => ?_) (fun i1 s1 hi1 hs1 ha1 hnm1 hse1 hwy S2 q2 => ?_)
    · refine ⟨fun q => absurd q (by decide), fun _ => ⟨fun q => absurd q (by decide), fun _ => ⟨fun _ => ?_, fun q => absurd rfl q⟩⟩⟩
      show F_X12_fail a1 a2 a3 a4 Sm (tl n 3 _ o)
      rw [hs, F_X12_fail]
      refine m_ownJobFor hW (fun j s2 hj hs2 ha2 hnm2 hse2 => ⟨fun q => absurd q (ni_m1 (by omega)), fun _ => ?_⟩) (fun hno => (no_job hno hW hj4 hs' ha hnm hse).elim)
      obtain rfl := same_ses hW hs2 hs1 ha2 ha1
      obtain rfl := same_job hW hj (hB.2.1.at hi1) hnm2 hnm1 hse2
      rw [m_in, hin]
      refine ⟨fun _ => ?_, fun q => absurd q (by decide)⟩
      rw [B_X12_fail_30, m_throws0]
      refine ⟨fun q => absurd rfl q, fun _ => ?_⟩
      rw [ha1, m_bars hW hj (sees_lie hse2), m_refuses, if_neg hwy]
      refine ⟨fun q => absurd q (by decide), fun _ => ?_⟩
      exact tl_ex uI_at (by decide) (inv_why hR hB hc mk_refuse3)
    · have hst : wlk w (pl π i1) (nI s1) (21 + 47 * pl π i1 + 25 + 3) = 1 := by rw [wlk_ver (by omega) (whyH_oth hwy).1 (by omega)]; exact (whyH_oth hwy).2
      have hj1 := hB.2.1.at hi1
      have hl2 : S2.2 0 0 4 = l := by rw [q2.2.1.2.1]; exact hR.2.1
      have hne3 : wlk w (pl π i1) (nI s1) (21 + 47 * pl π i1 + 25 + 3) ≠ 3 := by rw [hst]; decide
      obtain ⟨T, hT9, hT1, eT⟩ := tries_is q2.vok hne3
      have eB2 : wlk w (pl π i1) (nI s1) 10 = nI B := by rw [wlk_out (by omega)]; exact eB
      have eC2 : wlk w (pl π i1) (nI s1) 11 = nI C := by rw [wlk_out (by omega)]; exact eC
      have eL2 : wlk w (pl π i1) (nI s1) 13 = nI L := by rw [wlk_out (by omega)]; exact eL
      have en2 : num (wlk w (pl π i1) (nI s1)) (pl π i1) = a2 := by unfold num; rw [wlk_out (by omega)]; exact hnm1
      rw [hl2, hcc', ← en2]
      refine x_recordFailure q2 hne3 hB9 hC99 hT9 eB2 eC2 eT eL2 hL9 (show cc < 7 by omega) (fun S11 q11 => ?_)
      have hl11 : S11.2 0 0 4 = l := by rw [q11.2.1.2.1]; exact hR.2.1
      rw [hl11, ha1]
      refine x_closeAct q11.1 hs1 (fun S14 nl' b14 k14 => ?_)
      have ans : S14.1 22 (6 * Sc.2 14 l i1 + 1) 0 = wfl (wlk w (pl π i1) (nI s1)) (pl π i1) (nI cc) B C T (21 + 47 * pl π i1 + 25 + 3) := by
        rw [k14.2.2.2.1]
        exact q11.rown (f := 3) (by omega)
      show F_X12_fail (nI s1) _ a3 (nI cc) Sm (tl n 0 _ _)
      rw [ans, en2, hs, F_X12_fail]
      refine m_ownJobFor hW (fun j s2 hj hs2 ha2 hnm2 hse2 => ⟨fun q => absurd q (ni_m1 (by omega)), fun _ => ?_⟩) (fun hno => (no_job hno hW hj1 hs1 rfl hnm1 hse1).elim)
      obtain rfl := same_ses hW hs2 hs1 ha2 rfl
      obtain rfl := same_job hW hj (hB.2.1.at hi1) hnm2 hnm1 hse2
      rw [m_in, ← hcc', hin, hcc']
      refine ⟨fun _ => ?_, fun q => absurd q (by decide)⟩
      rw [B_X12_fail_30, m_throws0]
      refine ⟨fun q => absurd rfl q, fun _ => ?_⟩
      rw [m_bars hW hj (sees_lie hse2), hwy, m_refuses, if_pos rfl]
      refine ⟨fun _ => ?_, fun q => absurd rfl q⟩
      rw [m_locks hj]
      have hJ : ∃ c, c ≤ 9 ∧ wlk w (pl π i1) (nI s1) 12 = nI c := by rw [wlk_out (by omega)]; exact hW.jit
      rw [m_failsBy hj hJ hB9 hC99 hT9 eB2 eC2 eT eL2, na_3, ix_n (by omega) (by omega), forall_eq, sw_w]
      refine m_isDone q11.1.2.1 q11.1.2.2.1 hs1 ?_
      exact tl_ok (by rw [uI_nc (by omega)]; exact uI_at) (inv_upy hR b14 (c_le hc) (q11.2.1.1.tr k14.1) (k14.2.1.trans q11.2.1.2.1) mk_well) rfl
  · rw [B_X11_fail_23]
    exact ⟨fun z => absurd z (by decide), fun _ => ⟨fun _ => badc (Or.inr (Int32.not_le.mp c2)), fun z => absurd rfl z⟩⟩
/-- why a job cannot be tried anew -/
def whyA (w : Wd) (j : Nat) (s : Int32) : Int32 := if oth w j s then 2 else if w (ver w j s + 3) = 3 then 0 else 3
theorem cs_17 (h : Inv n Sc Sm) {a1 a2 a3 a4 a5 : Int32} {o : Int64} : CS_17 a1 a2 a3 a4 a5 Sc Sm o (fun S1 S2 _ => Inv (n + 1) S1 S2) := by
  obtain ⟨l, sp, π, ns, np, cm, nl, hR, hB, hc⟩ := h
  obtain ⟨w, hw⟩ : ∃ w, w = Sm.1 1 0 := ⟨_, rfl⟩
  have hs : Sm = sw Sm w := by rw [hw, sw_s]
  rw [← hw] at hB
  have hn := hB.2.2.1.hns.1
  have hW := hB.2.2.1
  have m0 : MK Sm (uI Sm 0 0 0 0) := MK.rfl.f (by omega)
  show FW_retry a1 a2 Sc o (fun r1 S2 o3 => F_X12_retry a1 a2 Sm (tl n r1 S2 o3))
  unfold FW_retry F_X11_retry
  have bad : ((∀ j, j < 24 → num w j = a2 → sees w j a1 = false) ∨ hasS w a1 = false) → F_X12_retry a1 a2 Sm (tl n 1 Sc o) := by
    intro hno
    rw [hs, F_X12_retry]
    refine m_ownJobFor hW (fun j s hj hs ha hnm hse => (no_job hno hW hj hs ha hnm hse).elim) (fun _ S' g1 g2 => ⟨fun q => absurd rfl q, fun _ => ?_⟩)
    exact tl_ex g1 (by decide) (inv_same hR hB hc g2)
  refine x_needSession hR.2.1 hB (fun s hs' ha => ?_) (fun q => ⟨fun _ => bad (Or.inr q), fun q => absurd rfl q⟩)
  refine x_needJob hR.2.1 hB (fun i hi hnm hse => ?_) (fun q => ⟨fun _ => bad (Or.inl q), fun q => absurd rfl q⟩)
  rw [ha] at hse
  have hj4 := hB.2.1.at hi
  -- class: why
  have xw : ∀ {k : Int32 → sSt → Prop}, F_X11_whyNotSetAside (Sc.2 14 l i) (nI s) Sc k ↔ k (whyA w (pl π i) (nI s)) Sc := by
    intro k
    rw [F_X11_whyNotSetAside, x_isLockedByOther hB.1 hi, x_seenBy hB.1 hi]
    unfold whyA
    cases c : oth w (pl π i) (nI s)
    · have h3 : Sc.1 22 (cver (Sc.2 14 l i) w (pl π i) (nI s)) 0 = _ := x_ver hB.1 hi hse 3 (by omega)
      rw [h3]
      by_cases c1 : w (ver w (pl π i) (nI s) + 3) = 3 <;> simp [c1, b2i]
    · simp [b2i]
  -- model: why
  have mw : ∀ {S : sSt} {k : Int32 → sSt → Prop}, (F_X12_isOthers (nI (pl π i)) (nI s) (sw S w) (fun r4 S5 => ((r4 = 0 → F_X12_seen (nI (pl π i)) (nI s) S5 (fun r7 S8 => F_X12_isState r7 3 S8 (fun r9 S10 => ((r9 = 0 → B_X12_retry_46 (nI s) (nI (pl π i)) 3 S10 k) ∧ (¬ r9 = 0 → B_X12_retry_46 (nI s) (nI (pl π i)) 0 S10 k))))) ∧ (¬ r4 = 0 → B_X12_retry_46 (nI s) (nI (pl π i)) 2 S5 k)))) ↔ B_X12_retry_46 (nI s) (nI (pl π i)) (whyA w (pl π i) (nI s)) (sw S w) k := by
    intro S k
    rw [m_isOthers hj4, sw_w]
    unfold whyA
    cases c : oth w (pl π i) (nI s)
    · rw [m_seen hj4, m_isState hj4, sw_w]
      unfold stt
      rw [hse]
      by_cases c1 : w (ver w (pl π i) (nI s) + 3) = 3 <;> simp [c1, b2i]
    · simp [b2i]
  rw [ha, xw, F_X11_settle]
  rintro S1 rfl
  by_cases hwy : whyA w (pl π i) (nI s) = 0
  · rw [hwy]
    refine ⟨fun _ => ?_, fun q => absurd rfl q⟩
    have hoA : oth w (pl π i) (nI s) = false ∧ w (ver w (pl π i) (nI s) + 3) = 3 := by
      unfold whyA at hwy
      cases c : oth w (pl π i) (nI s)
      · refine ⟨rfl, ?_⟩
        rw [c] at hwy
        by_cases c1 : w (ver w (pl π i) (nI s) + 3) = 3
        · exact c1
        · rw [if_neg c1] at hwy; exact absurd hwy (by decide)
      · rw [c, if_pos rfl] at hwy; exact absurd hwy (by decide)
    refine (hB.f0 (f := 7) (v := 0)).lockFor hi hs' hoA.1 (fun S2 q2 => ?_)
    have q2' : zQ (uI Sc 0 0 7 0) S2 l (wlk w (pl π i) (nI s)) π ns np cm nl i := q2
    obtain ⟨w2, hw2⟩ : ∃ w2, w2 = wlk w (pl π i) (nI s) := ⟨_, rfl⟩
    rw [← hw2] at q2'
    obtain ⟨q, hq⟩ : ∃ q, q = Sc.2 14 l i := ⟨_, rfl⟩
    have hq0 : (uI Sc 0 0 7 0).2 14 l i = q := hq.symm
    rw [hq0]
    obtain ⟨p, hp⟩ : ∃ p, p = 21 + 47 * pl π i + 25 := ⟨_, rfl⟩
    have rv : ∀ f, f < 22 → cJ S2 q (6 * q + 1) f = w2 (p + f) := fun f hf => by
      have := q2'.rown hf
      rw [hq0, ← hp] at this; exact this
    obtain ⟨mo, hm9, em⟩ := q2'.1.2.2.1.mono
    rintro x11 rfl S12 e12 S13 e13
    have hl2 : S2.2 0 0 4 = l := by rw [q2'.2.1.2.1]; exact hR.2.1
    have hl13 : S13.2 0 0 4 = l := by rw [e13, e12]; exact hl2
    rw [hl13]
    intro S15 e15
    have m13 : S13.1 13 l 10 = nI mo := by
      rw [e13, uI_other (by omega), e12, uI_other (by omega)]
      exact (q2'.1.1.sca.1 3 (by omega)).trans em
    rw [m13] at e15
    have o15 : ∀ a b, ¬ (a = 22 ∧ b = 6 * q + 1) → S15.1 a b = S2.1 a b := fun a b z => by rw [e15, uI_other z, e13, uI_other z, e12, uI_other z]
    have hv := q2'.vok
    rw [← hp] at hv
    have q15 : zQ (uI Sc 0 0 7 0) S15 l (va_up (va_up (va_up w2 (p + 3) 0) (p + 6) 0) (p + 5) (nI mo)) π ns np cm nl i := by
      refine q2'.upd (fun a b z => o15 a b (by rw [hq0] at z; exact z)) (by rw [e15, e13, e12]; rfl) (fun x hx => by rw [up_ne (by omega), up_ne (by omega), up_ne (by omega)]) (fun f hf => ?_) ?_
      · rw [hq0, ← hp]
        have rvf := rv f hf
        have h21 := o15 21 q (by omega)
        have hf22 : ∀ g, g ≠ 0 → g ≠ 1 → g ≠ 2 → S15.1 22 (6 * q + 1) g = S2.1 22 (6 * q + 1) g := fun g z0 z1 z2 => by rw [e15, uI_nc (by omega), e13, uI_nc (by omega), e12, uI_nc (by omega)]
        by_cases z5 : f = 5
        · rw [z5, up_eq]; show S15.1 22 (6 * q + 1) 1 = _; rw [e15, uI_at]
        by_cases z6 : f = 6
        · rw [z6, up_ne (by omega), up_eq]; show S15.1 22 (6 * q + 1) 2 = _; rw [e15, uI_nc (by omega), e13, uI_at]
        by_cases z3 : f = 3
        · rw [z3, up_ne (by omega), up_ne (by omega), up_eq]; show S15.1 22 (6 * q + 1) 0 = _; rw [e15, uI_nc (by omega), e13, uI_nc (by omega), e12, uI_at]
        rw [up_ne (by omega), up_ne (by omega), up_ne (by omega), ← rvf]
        rcases f_cases f with rfl | rfl | rfl | rfl | rfl | rfl | rfl | rfl | rfl | rfl | rfl | rfl | rfl | ⟨y, rfl⟩ <;> simp only [cJ] <;> first | rw [h21] | exact hf22 _ (by omega) (by omega) (by omega) | exact absurd rfl z3 | exact absurd rfl z5 | exact absurd rfl z6 | rw [hf22 4 (by omega) (by omega) (by omega)]
      · rw [← hp]
        obtain ⟨⟨g, g1, g2⟩, ⟨co, b1, b2, b3⟩, ⟨x, x1, x2⟩, ⟨d, d1, d2⟩, ⟨t, t1, t2, t3⟩, ⟨m, m1, m2⟩, hk⟩ := hv
        refine ⟨⟨g, g1, ?_⟩, ⟨co, b1, b2, ?_⟩, ⟨0, by omega, ?_⟩, ⟨mo, by omega, up_eq⟩, ⟨0, by omega, ?_, fun z => absurd z (by omega)⟩, ⟨m, m1, ?_⟩, fun k hk9 => ?_⟩
        · rw [up_ne (by omega), up_ne (by omega), up_ne (by omega)]; exact g2
        · rw [up_ne (by omega), up_ne (by omega), up_ne (by omega)]; exact b3
        · rw [up_ne (by omega), up_ne (by omega), up_eq]; rfl
        · rw [up_ne (by omega), up_eq]; rfl
        · rw [up_ne (by omega), up_ne (by omega), up_ne (by omega)]; exact m2
        · rw [up_ne (by omega), up_ne (by omega), up_ne (by omega)]; exact hk k hk9
    have hl15 : S15.2 0 0 4 = l := by rw [q15.2.1.2.1]; exact hR.2.1
    rw [hl15]
    refine x_closeAct q15.1 hs' (fun S18 nl' b18 k18 => ?_)
    have ans : S2.1 22 (6 * q + 1) 2 = w2 (p + 6) := rv 6 (by omega)
    show F_X12_retry (nI s) a2 Sm (tl n 0 _ _)
    rw [ans, hs, F_X12_retry]
    refine m_ownJobFor hW (fun j s2 hj hs2 ha2 hnm2 hse2 => ⟨fun _ => ?_, fun q => absurd q (ni_m1 (by omega))⟩) (fun hno => (no_job hno hW hj4 hs' rfl hnm hse).elim)
    obtain rfl := same_ses hW hs2 hs' ha2 rfl
    obtain rfl := same_job hW hj hj4 hnm2 hnm hse2
    rw [mw, hwy, B_X12_retry_46, m_refuses, if_pos rfl]
    refine ⟨fun _ => ?_, fun q => absurd rfl q⟩
    rw [m_locks hj, ← hw2, ← hp, na_6, ix_n (by omega) (by omega), forall_eq, na_3, ix_n (by omega) (by omega), forall_eq, sw_i, forall_eq, sw_i, na_5, ix_n (by omega) (by omega), forall_eq, sw_i, sw_w, sw_w]
    have em3 : va_up (va_up w2 (p + 3) 0) (p + 6) 0 3 = nI mo := by rw [up_ne (by omega), up_ne (by omega)]; exact em
    rw [em3]
    refine m_isDone q15.1.2.1 q15.1.2.2.1 hs' ?_
    exact tl_ok (by rw [uI_nc (by omega)]; exact uI_at) (inv_upy hR b18 (c_le hc) (q15.2.1.1.tr k18.1) (k18.2.1.trans q15.2.1.2.1) mk_well) rfl
  · refine ⟨fun q => absurd q hwy, fun _ => ?_⟩
    refine ⟨fun q => absurd q (by decide), fun _ => ⟨fun _ => ?_, fun q => absurd rfl q⟩⟩
    show F_X12_retry (nI s) a2 Sm (tl n 2 _ o)
    rw [hs, F_X12_retry]
    refine m_ownJobFor hW (fun j s2 hj hs2 ha2 hnm2 hse2 => ⟨fun _ => ?_, fun q => absurd q (ni_m1 (by omega))⟩) (fun hno => (no_job hno hW hj4 hs' rfl hnm hse).elim)
    obtain rfl := same_ses hW hs2 hs' ha2 rfl
    obtain rfl := same_job hW hj hj4 hnm2 hnm hse2
    rw [mw, B_X12_retry_46, m_refuses, if_neg hwy]
    refine ⟨fun q => absurd q (by decide), fun _ => ?_⟩
    exact tl_ex uI_at (by decide) (inv_why hR hB hc mk_refuse3)
end CS
end PU25
