section PU20
/-! CALLS: renew, finish, give, claim, commit -/
section CS
variable {Sc Sc' Sm S' : sSt} {l sp n : Nat} {w w' : Wd} {π π' : List Nat} {ns np cm nl ns' np' cm' nl' : Nat}
theorem inv_same (hR : zR n Sc Sm l sp) (hB : zB Sc l w π ns np cm nl) (hc : cm ≤ 1300 * n) (hm : MK Sm S') : Inv (n + 1) Sc (sw S' w) :=
  Inv.mk (hR.keep (Nat.le_succ n) K2.rfl hm.sw hR.2.2.2.1) (by rw [sw_w]; exact hB) (Nat.le_trans hc (Nat.mul_le_mul_left _ (Nat.le_succ n)))
theorem inv_why (hR : zR n Sc Sm l sp) (hB : zB Sc l w π ns np cm nl) (hc : cm ≤ 1300 * n) {v : Int32} (hm : MK (uI Sm 0 0 1 v) S') : Inv (n + 1) (uI Sc 0 0 7 v) (sw S' w) :=
  inv_same (hR.why v) hB.f0 hc hm
/-- the live table has changed, and the world with it -/
theorem inv_upd (hR : zR n Sc Sm l sp) (hB : zB Sc' l w' π' ns' np' cm' nl') (hc : cm' ≤ 1300 * (n + 1)) (hk : KP l Sc Sc') (h2 : Sc'.2 14 sp = Sc.2 14 sp) (hm : MK Sm S') : Inv (n + 1) Sc' (sw S' w') :=
  Inv.mk (hR.keep (Nat.le_succ n) (K2.l hk) hm.sw (by unfold zRef; rw [h2]; exact hR.2.2.2.1)) (by rw [sw_w]; exact hB) hc
theorem inv_upy (hR : zR n Sc Sm l sp) {v : Int32} (hB : zB Sc' l w' π' ns' np' cm' nl') (hc : cm' ≤ 1300 * (n + 1)) (hk : KP l (uI Sc 0 0 7 v) Sc') (h2 : Sc'.2 = Sc.2) (hm : MK (uI Sm 0 0 1 v) S') : Inv (n + 1) Sc' (sw S' w') :=
  inv_upd (hR.why v) hB hc hk (by rw [h2]; rfl) hm
theorem c_le (hc : cm ≤ 1300 * n) : cm ≤ 1300 * (n + 1) := Nat.le_trans hc (Nat.mul_le_mul_left _ (Nat.le_succ n))
theorem no_job {a m : Int32} (h : ((∀ j, j < 24 → num w j = m → sees w j a = false) ∨ hasS w a = false)) (hW : WF w ns np cm nl) {j s : Nat} (hj : j < 24) (hs : s < ns) (ha : a = nI s) (hn : num w j = m) (hse : sees w j (nI s) = true) : False := by
  rcases h with q | q
  · have := q j hj hn
    rw [ha, hse] at this; exact absurd this (by decide)
  · rw [ha, hasS_of hW hs] at q; exact absurd q (by decide)
theorem same_job (hW : WF w ns np cm nl) {j j' : Nat} {m : Int32} {s : Int32} (hj : j < 24) (hj' : j' < 24) (h : num w j = m) (h' : num w j' = m) (hse : sees w j s = true) : j' = j := (hW.one j j' hj hj' (sees_lie hse) (by rw [h, h'])).symm
theorem same_ses (hW : WF w ns np cm nl) {s s' : Nat} {a : Int32} (hs : s < ns) (hs' : s' < ns) (h : a = nI s) (h' : a = nI s') : s' = s := by
  have := hW.hns.1
  exact ((nI_eq (by omega) (by omega)).mp (h.symm.trans h')).symm
theorem cs_12 (h : Inv n Sc Sm) {a1 a2 a3 a4 a5 : Int32} {o : Int64} : CS_12 a1 a2 a3 a4 a5 Sc Sm o (fun S1 S2 _ => Inv (n + 1) S1 S2) := by
  obtain ⟨l, sp, π, ns, np, cm, nl, hR, hB, hc⟩ := h
  obtain ⟨w, hw⟩ : ∃ w, w = Sm.1 1 0 := ⟨_, rfl⟩
  have hs : Sm = sw Sm w := by rw [hw, sw_s]
  rw [← hw] at hB
  have hn := hB.2.2.1.hns.1
  have hW := hB.2.2.1
  unfold CS_12 FW_renew F_X11_renew
  refine x_lockHeld hR.2.1 hB (fun hno => ?_) (fun i s hi hs' ha hnm hse hwy => ?_) (fun i s hi hs' ha hnm hse hwy S2 q2 => ?_)
  · refine ⟨fun _ => ?_, fun q => absurd rfl q⟩
    show F_X12_renew _ _ _ _ _
    rw [hs, F_X12_renew]
    refine m_held hW (fun _ S' g1 g2 => ?_) (fun j s hj hs ha hnm hse _ => (no_job hno hW hj hs ha hnm hse).elim) (fun j s hj hs ha hnm hse _ => (no_job hno hW hj hs ha hnm hse).elim)
    rw [F_X12_thrown]
    exact cs_end (by rw [sw_o (by omega)]; exact g1) (fun q => absurd q (by decide)) (inv_same hR hB hc g2)
  · refine ⟨fun q => absurd q (by decide), fun _ => ⟨fun _ => ?_, fun q => absurd rfl q⟩⟩
    show F_X12_renew _ _ _ _ _
    rw [hs, F_X12_renew]
    refine m_held hW (fun hno => (no_job hno hW (hB.2.1.at hi) hs' ha hnm hse).elim) (fun j s1 hj hs1 ha1 hnm1 hse1 hwy1 S' g1 g2 => ?_) (fun j s1 hj hs1 ha1 hnm1 hse1 hwy1 => ?_)
    · obtain rfl := same_ses hW hs1 hs' ha1 ha
      obtain rfl := same_job hW hj (hB.2.1.at hi) hnm1 hnm hse1
      rw [F_X12_thrown]
      exact cs_end (by rw [sw_o (by omega)]; exact g1) (fun q => absurd q (by decide)) (inv_why hR hB hc g2)
    · obtain rfl := same_ses hW hs1 hs' ha1 ha
      obtain rfl := same_job hW hj (hB.2.1.at hi) hnm1 hnm hse1
      exact absurd hwy1 hwy
  · intro S6 e6
    have hl2 : S2.2 0 0 4 = l := by rw [q2.2.1.2.1]; exact hR.2.1
    rw [hl2] at e6
    have q6 := q2.free (mf := 10) (by omega) e6 (congr (congrArg (· + ·) (q2.1.1.sca.1 3 (by omega))) (q2.1.1.sca.2.1 0 (by omega)))
    have hl6 : S6.2 0 0 4 = l := by rw [q6.2.1.2.1]; exact hR.2.1
    rw [hl6, ha]
    refine x_closeAct q6.1 hs' (fun S9 nl' b9 k9 => ?_)
    have ans : S9.1 22 (6 * Sc.2 14 l i + 1) 7 = wlk w (pl π i) (nI s) 3 + wlk w (pl π i) (nI s) 9 := by
      rw [k9.2.2.2.1]
      have := q6.rown (f := 10) (by omega)
      rw [up_eq] at this
      exact this
    show F_X12_renew _ _ _ _ _
    rw [ans, hs, F_X12_renew, ← ha]
    refine m_held hW (fun hno => (no_job hno hW (hB.2.1.at hi) hs' ha hnm hse).elim) (fun j s1 hj hs1 ha1 hnm1 hse1 hwy1 => ?_) (fun j s1 hj hs1 ha1 hnm1 hse1 hwy1 S' g1 g2 => ?_)
    · obtain rfl := same_ses hW hs1 hs' ha1 ha
      obtain rfl := same_job hW hj (hB.2.1.at hi) hnm1 hnm hse1
      exact absurd hwy hwy1
    · obtain rfl := same_ses hW hs1 hs' ha1 ha
      obtain rfl := same_job hW hj (hB.2.1.at hi) hnm1 hnm hse1
      rw [ha1, m_locks hj]
      simp only [forall_eq, na_10]
      rw [ix_n (by omega) (by omega)]
      simp only [forall_eq, sw_i, sw_w]
      refine m_isDone q6.1.2.1 q6.1.2.2.1 hs' ?_
      rw [F_X12_thrown, up_eq]
      have hI := inv_upy hR b9 (c_le hc) (q6.2.1.1.tr k9.1) (k9.2.1.trans q6.2.1.2.1) g2
      exact ⟨fun _ => ⟨fun _ => hI, fun _ => ⟨fun _ => hI, fun q => q rfl⟩⟩, fun q => q (by rw [sw_o (by omega)]; exact g1)⟩
end CS
end PU20
