section PU26
/-! CALLS THAT READ: fault, why, job, cause, locked, plan, may, again -/
section CS
variable {Sc Sc' Sm S' : sSt} {l sp n : Nat} {w w' : Wd} {π π' : List Nat} {ns np cm nl ns' np' cm' nl' : Nat}
theorem cs_4 (h : Inv n Sc Sm) {a1 a2 a3 a4 a5 : Int32} {o : Int64} : CS_4 a1 a2 a3 a4 a5 Sc Sm o (fun S1 S2 _ => Inv (n + 1) S1 S2) := by
  obtain ⟨l, sp, π, ns, np, cm, nl, hR, hB, hc⟩ := h
  obtain ⟨w, hw⟩ : ∃ w, w = Sm.1 1 0 := ⟨_, rfl⟩
  have hs : Sm = sw Sm w := by rw [hw, sw_s]
  rw [← hw] at hB
  have m0 : MK Sm (uI Sm 0 0 0 0) := MK.rfl.f (by omega)
  unfold CS_4 F_X11_fault F_X12_fault
  rintro S1 rfl
  have hI := inv_same hR hB hc m0
  have e : uI Sm 0 0 0 0 = sw (uI Sm 0 0 0 0) w := by rw [← sw_c (by omega), ← hs]
  rw [← e] at hI
  refine cs_eq ?_ hI
  rw [uI_nc (by omega)]
  exact hR.2.2.2.2.2.2.2.1
theorem cs_5 (h : Inv n Sc Sm) {a1 a2 a3 a4 a5 : Int32} {o : Int64} : CS_5 a1 a2 a3 a4 a5 Sc Sm o (fun S1 S2 _ => Inv (n + 1) S1 S2) := by
  obtain ⟨l, sp, π, ns, np, cm, nl, hR, hB, hc⟩ := h
  obtain ⟨w, hw⟩ : ∃ w, w = Sm.1 1 0 := ⟨_, rfl⟩
  have hs : Sm = sw Sm w := by rw [hw, sw_s]
  rw [← hw] at hB
  have m0 : MK Sm (uI Sm 0 0 0 0) := MK.rfl.f (by omega)
  unfold CS_5 F_X11_why F_X12_why
  rintro S1 rfl
  have hI := inv_same hR hB hc m0
  have e : uI Sm 0 0 0 0 = sw (uI Sm 0 0 0 0) w := by rw [← sw_c (by omega), ← hs]
  rw [← e] at hI
  refine cs_eq ?_ hI
  rw [uI_nc (by omega)]
  exact hR.2.2.2.2.2.2.1
/-- a job as someone sees it -/
theorem x_viewJob (hl : Sc.2 0 0 4 = l) (h : zB Sc l w π ns np cm nl) {a m : Int32} {k : Nat → sSt → Prop} {kx : String → sSt → Prop} (h1 : ∀ i, i < π.length → num w (pl π i) = m → sees w (pl π i) a = true → (a = -1 ∨ hasS w a = true) → k (Sc.2 14 l i) Sc) (h0 : ((∀ j, j < 24 → num w j = m → sees w j a = false) ∨ (a ≠ -1 ∧ hasS w a = false)) → kx "java/lang/IndexOutOfBoundsException" Sc) : F_X11_needViewer a Sc (fun S2 => F_X11_needJob a m S2 k kx) kx := by
  rw [F_X11_needViewer]
  refine ⟨fun c => x_needJob hl h (fun i q1 q2 q3 => h1 i q1 q2 q3 (Or.inl c)) (fun q => h0 (Or.inl q)), fun c => x_needSession hl h (fun s hs ha => x_needJob hl h (fun i q1 q2 q3 => h1 i q1 q2 q3 (Or.inr (by rw [ha]; exact hasS_of h.2.2.1 hs))) (fun q => h0 (Or.inl q))) (fun q => h0 (Or.inr ⟨c, q⟩))⟩
theorem no_view {a m : Int32} (h : ((∀ j, j < 24 → num w j = m → sees w j a = false) ∨ (a ≠ -1 ∧ hasS w a = false))) {j : Nat} (hj : j < 24) (hn : num w j = m) (hse : sees w j a = true) (ha : a = -1 ∨ hasS w a = true) : False := by
  rcases h with q | ⟨q, q2⟩
  · have := q j hj hn
    rw [hse] at this; exact absurd this (by decide)
  · rcases ha with ha | ha
    · exact q ha
    · rw [ha] at q2; exact absurd q2 (by decide)
theorem in_b {a b c : Int32} : (!(decide (a < b) || decide (c < a))) = true ↔ (¬ a < b ∧ ¬ c < a) := by simp
theorem cs_22 (h : Inv n Sc Sm) {a1 a2 a3 a4 a5 : Int32} {o : Int64} : CS_22 a1 a2 a3 a4 a5 Sc Sm o (fun S1 S2 _ => Inv (n + 1) S1 S2) := by
  obtain ⟨l, sp, π, ns, np, cm, nl, hR, hB, hc⟩ := h
  obtain ⟨w, hw⟩ : ∃ w, w = Sm.1 1 0 := ⟨_, rfl⟩
  have hs : Sm = sw Sm w := by rw [hw, sw_s]
  rw [← hw] at hB
  have hW := hB.2.2.1
  have m0 : MK Sm (uI Sm 0 0 0 0) := MK.rfl.f (by omega)
  show FW_job a1 a2 a3 Sc o (fun r1 S2 o3 => F_X12_job a1 a2 a3 Sm (tl n r1 S2 o3))
  unfold FW_job F_X11_job
  refine x_viewJob hR.2.1 hB (fun i hi hnm hse ha => ?_) (fun hno => ?_)
  · have hj4 := hB.2.1.at hi
    have hv := x_ver hB.1 hi hse
    have hvl := ver_lt (w := w) (s := a1) hj4
    rw [x_seenBy hB.1 hi]
    have good : ∀ f, f < 13 → a3 = nI f → F_X12_job a1 a2 a3 Sm (tl n 0 Sc (w (ver w (pl π i) a1 + f)).toInt64) := by
      intro f hf hf'
      rw [hs, F_X12_job]
      refine m_jobFor hW (fun j hj hnm1 hse1 _ => ⟨fun q => absurd q (ni_m1 (by omega)), fun _ => ?_⟩) (fun hno => (no_view hno hj4 hnm hse ha).elim)
      obtain rfl := same_job hW hj hj4 hnm1 hnm hse1
      rw [m_in, in_b.mpr ⟨by rw [hf']; exact nI_pos (by omega), by rw [hf', show (12 : Int32) = nI 12 from rfl]; exact nI_nlt (by omega) (by omega)⟩]
      refine ⟨fun _ => ?_, fun q => absurd q (by decide)⟩
      rw [B_X12_job_30, m_throws0]
      refine ⟨fun _ => ?_, fun q => absurd rfl q⟩
      rw [m_seen hj, sw_w, seeI, hse, if_pos rfl, hf', nI_add, ix_n (by omega) (by omega)]
      exact tl_ok uI_at (inv_same hR hB hc m0) rfl
    have bad : (∀ f, f < 13 → a3 ≠ nI f) → F_X12_job a1 a2 a3 Sm (tl n 2 Sc o) := by
      intro hf
      rw [hs, F_X12_job]
      refine m_jobFor hW (fun j hj hnm1 hse1 _ => ⟨fun q => absurd q (ni_m1 (by omega)), fun _ => ?_⟩) (fun hno => (no_view hno hj4 hnm hse ha).elim)
      have : (!(decide (a3 < 0) || decide (12 < a3))) = false := by
        cases c : (!(decide (a3 < 0) || decide (12 < a3)))
        · rfl
        · obtain ⟨c1, c2⟩ := in_b.mp c
          obtain ⟨f, f1, f2⟩ := nI_of2 (M := 12) (n := 12) rfl c1 (Int32.not_lt.mp c2)
          exact absurd f2 (hf f (by omega))
      rw [m_in, this]
      refine ⟨fun q => absurd rfl q, fun _ => ?_⟩
      rw [B_X12_job_30, m_throws1, sw_c (by omega)]
      exact ⟨fun q => absurd q (by decide), fun _ => tl_ex uI_at (by decide) (inv_same hR hB hc (m0.f (by omega)))⟩
    have gv : ∀ f, f < 13 → a3 = nI f → F_X12_job a1 a2 a3 Sm (tl n 0 Sc (cJ Sc (Sc.2 14 l i) (cver (Sc.2 14 l i) w (pl π i) a1) f).toInt64) := fun f hf hf' => by
      rw [hv f (by omega)]; exact good f hf hf'
    refine ⟨fun c => gv 0 (by omega) c, fun c0 => ⟨fun c => gv 1 (by omega) c, fun c1 => ⟨fun c => gv 2 (by omega) c, fun c2 => ⟨fun c => gv 3 (by omega) c, fun c3 => ⟨fun c => gv 4 (by omega) c, fun c4 => ⟨fun c => gv 5 (by omega) c, fun c5 => ⟨fun c => gv 6 (by omega) c, fun c6 => ⟨fun c => gv 7 (by omega) c, fun c7 => ⟨fun c => gv 8 (by omega) c, fun c8 => ⟨fun c => gv 9 (by omega) c, fun c9 => ⟨fun c => gv 10 (by omega) c, fun c10 => ⟨fun c => gv 11 (by omega) c, fun c11 => ⟨fun c => gv 12 (by omega) c, fun c12 => ?_⟩⟩⟩⟩⟩⟩⟩⟩⟩⟩⟩⟩⟩
    refine ⟨fun q => absurd q (by decide), fun _ => ⟨fun _ => bad (fun f hf => ?_), fun q => absurd rfl q⟩⟩
    rcases (show f = 0 ∨ f = 1 ∨ f = 2 ∨ f = 3 ∨ f = 4 ∨ f = 5 ∨ f = 6 ∨ f = 7 ∨ f = 8 ∨ f = 9 ∨ f = 10 ∨ f = 11 ∨ f = 12 by omega) with rfl | rfl | rfl | rfl | rfl | rfl | rfl | rfl | rfl | rfl | rfl | rfl | rfl <;> assumption
  · refine ⟨fun _ => ?_, fun q => absurd rfl q⟩
    show F_X12_job a1 a2 a3 Sm (tl n 1 Sc o)
    rw [hs, F_X12_job]
    exact m_jobFor hW (fun j hj hnm1 hse1 ha1 => (no_view hno hj hnm1 hse1 ha1).elim) (fun _ S' g1 g2 => ⟨fun _ => tl_ex g1 (by decide) (inv_same hR hB hc g2), fun q => absurd rfl q⟩)
theorem cs_24 (h : Inv n Sc Sm) {a1 a2 a3 a4 a5 : Int32} {o : Int64} : CS_24 a1 a2 a3 a4 a5 Sc Sm o (fun S1 S2 _ => Inv (n + 1) S1 S2) := by
  obtain ⟨l, sp, π, ns, np, cm, nl, hR, hB, hc⟩ := h
  obtain ⟨w, hw⟩ : ∃ w, w = Sm.1 1 0 := ⟨_, rfl⟩
  have hs : Sm = sw Sm w := by rw [hw, sw_s]
  rw [← hw] at hB
  have hW := hB.2.2.1
  have m0 : MK Sm (uI Sm 0 0 0 0) := MK.rfl.f (by omega)
  show FW_locked a1 Sc o (fun r1 S2 o3 => F_X12_locked a1 Sm (tl n r1 S2 o3))
  unfold FW_locked F_X11_locked
  refine x_needJob hR.2.1 hB (fun i hi hnm hse => ?_) (fun hno => ⟨fun _ => ?_, fun q => absurd rfl q⟩)
  · have hj4 := hB.2.1.at hi
    rw [x_lkr hB.1 hi]
    show F_X12_locked a1 Sm (tl n 0 Sc _)
    rw [hs, F_X12_locked]
    refine m_jobFor hW (fun j hj hnm1 hse1 _ => ⟨fun _ => ?_, fun q => absurd q (ni_m1 (by omega))⟩) (fun hno => (no_view hno hj4 hnm hse (Or.inl rfl)).elim)
    obtain rfl := same_job hW hj hj4 hnm1 hnm hse1
    rw [m_lockerOf hj, sw_w]
    exact tl_ok uI_at (inv_same hR hB hc m0) rfl
  · show F_X12_locked a1 Sm (tl n 1 Sc o)
    rw [hs, F_X12_locked]
    exact m_jobFor hW (fun j hj hnm1 hse1 ha1 => (no_view (Or.inl hno) hj hnm1 hse1 ha1).elim) (fun _ S' g1 g2 => ⟨fun q => absurd rfl q, fun _ => tl_ex g1 (by decide) (inv_same hR hB hc g2)⟩)
theorem x_causeAt {v m : Nat} (hm : m ≤ 9) (e3 : Sc.1 22 v 3 = nI m) {a : Int32} {k : Int32 → sSt → Prop} (h1 : ∀ x, x < m → a = nI x → k (cz (Sc.1 22 v 4) x) Sc) (h0 : (∀ x, x < m → a ≠ nI x) → k (-1) Sc) : F_X9_causeAt v a Sc k := by
  rw [F_X9_causeAt, e3, B_X9_causeAt_12]
  refine ⟨fun c => h0 (fun x hx e => ?_), fun c => ⟨fun c2 => ?_, fun c2 => h0 (fun x hx e => ?_)⟩⟩
  · rw [e] at c; exact nI_pos (by omega) c
  · obtain ⟨x, x1, x2⟩ := nI_of c
    rw [x2, nI_ltI x1 (by omega)] at c2
    rw [x2]
    exact h1 x c2 x2
  · rw [e] at c2; exact c2 (nI_lt hx (by omega))
theorem cs_23 (h : Inv n Sc Sm) {a1 a2 a3 a4 a5 : Int32} {o : Int64} : CS_23 a1 a2 a3 a4 a5 Sc Sm o (fun S1 S2 _ => Inv (n + 1) S1 S2) := by
  obtain ⟨l, sp, π, ns, np, cm, nl, hR, hB, hc⟩ := h
  obtain ⟨w, hw⟩ : ∃ w, w = Sm.1 1 0 := ⟨_, rfl⟩
  have hs : Sm = sw Sm w := by rw [hw, sw_s]
  rw [← hw] at hB
  have hW := hB.2.2.1
  have m0 : MK Sm (uI Sm 0 0 0 0) := MK.rfl.f (by omega)
  show FW_cause a1 a2 a3 Sc o (fun r1 S2 o3 => F_X12_cause a1 a2 a3 Sm (tl n r1 S2 o3))
  unfold FW_cause F_X11_cause
  refine x_viewJob hR.2.1 hB (fun i hi hnm hse ha => ?_) (fun hno => ⟨fun _ => ?_, fun q => absurd rfl q⟩)
  · have hj4 := hB.2.1.at hi
    have hv := x_ver hB.1 hi hse
    have hvl := ver_lt (w := w) (s := a1) hj4
    obtain ⟨-, -, -, -, -, ⟨m, m1, m2⟩, -⟩ := hW.vver hj4 hse
    have e3 : Sc.1 22 (cver (Sc.2 14 l i) w (pl π i) a1) 3 = nI m := (hv 7 (by omega)).trans m2
    have em1 : nI m - 1 = nI m + (-1) := Int32.sub_eq_add_neg _ _
    rw [x_seenBy hB.1 hi]
    refine x_causeAt m1 e3 (fun x hx hx' => ?_) (fun hx => ?_)
    · rw [show cz (Sc.1 22 (cver (Sc.2 14 l i) w (pl π i) a1) 4) x = w (ver w (pl π i) a1 + (x + 13)) from hv (x + 13) (by omega)]
      show F_X12_cause a1 a2 a3 Sm (tl n 0 Sc _)
      rw [hs, F_X12_cause]
      refine m_jobFor hW (fun j hj hnm1 hse1 _ => ⟨fun _ => ?_, fun q => absurd q (ni_m1 (by omega))⟩) (fun hno => (no_view hno hj4 hnm hse ha).elim)
      obtain rfl := same_job hW hj hj4 hnm1 hnm hse1
      rw [m_seen hj, sw_w, seeI, hse, if_pos rfl, na_7, ix_n (by omega) (by omega), m2, m_in, hx']
      have hge : ¬ nI m - 1 < nI x := by
        obtain ⟨m', rfl⟩ : ∃ m', m = m' + 1 := ⟨m - 1, by omega⟩
        rw [nI_pred]; exact nI_nlt (by omega) (by omega)
      rw [in_b.mpr ⟨nI_pos (by omega), hge⟩]
      refine ⟨fun q => absurd q (by decide), fun _ => ?_⟩
      rw [na_13, nI_add, ix_n (by omega) (by omega), sw_w]
      exact tl_ok uI_at (inv_same hR hB hc m0) (by congr 1; omega)
    · show F_X12_cause a1 a2 a3 Sm (tl n 0 Sc _)
      rw [hs, F_X12_cause]
      refine m_jobFor hW (fun j hj hnm1 hse1 _ => ⟨fun _ => ?_, fun q => absurd q (ni_m1 (by omega))⟩) (fun hno => (no_view hno hj4 hnm hse ha).elim)
      obtain rfl := same_job hW hj hj4 hnm1 hnm hse1
      rw [m_seen hj, sw_w, seeI, hse, if_pos rfl, na_7, ix_n (by omega) (by omega), m2, m_in]
      have : (!(decide (a3 < 0) || decide (nI m - 1 < a3))) = false := by
        cases c : (!(decide (a3 < 0) || decide (nI m - 1 < a3)))
        · rfl
        · obtain ⟨c1, c2⟩ := in_b.mp c
          obtain ⟨y, y1, y2⟩ := nI_of c1
          rw [y2] at c2
          have hy : ¬ y < m := fun q => hx y q y2
          exfalso
          rw [Int32.lt_iff_toInt_lt, nI_toInt y1, Int32.toInt_sub, nI_toInt (by omega), show (1 : Int32).toInt = 1 from rfl, Int.bmod_eq_of_le (by omega) (by omega)] at c2
          omega
      rw [this]
      refine ⟨fun _ => ?_, fun q => absurd rfl q⟩
      exact tl_ok uI_at (inv_same hR hB hc m0) rfl
  · show F_X12_cause a1 a2 a3 Sm (tl n 1 Sc o)
    rw [hs, F_X12_cause]
    exact m_jobFor hW (fun j hj hnm1 hse1 ha1 => (no_view hno hj hnm1 hse1 ha1).elim) (fun _ S' g1 g2 => ⟨fun q => absurd rfl q, fun _ => tl_ex g1 (by decide) (inv_same hR hB hc g2)⟩)
theorem hind_oth {j : Nat} {s : Nat} (h : oth w j (nI s) = true) : hind w j (nI s) = 1 ∧ mayc w j s = false := by
  unfold hind mayc
  rw [h]
  refine ⟨rfl, ?_⟩
  simp
theorem cs_27 (h : Inv n Sc Sm) {a1 a2 a3 a4 a5 : Int32} {o : Int64} : CS_27 a1 a2 a3 a4 a5 Sc Sm o (fun S1 S2 _ => Inv (n + 1) S1 S2) := by
  obtain ⟨l, sp, π, ns, np, cm, nl, hR, hB, hc⟩ := h
  obtain ⟨w, hw⟩ : ∃ w, w = Sm.1 1 0 := ⟨_, rfl⟩
  have hs : Sm = sw Sm w := by rw [hw, sw_s]
  rw [← hw] at hB
  have hW := hB.2.2.1
  have m0 : MK Sm (uI Sm 0 0 0 0) := MK.rfl.f (by omega)
  unfold CS_27 FW_may F_X11_may
  have bad : ((∀ j, j < 24 → num w j = a2 → sees w j a1 = false) ∨ hasS w a1 = false) → F_X12_may a1 a2 Sm (fun r4 S5 => F_X12_thrown S5 (fun r6 S7 => ((r6 = 1 → ((¬ (1 : Int32) = 0 → Inv (n + 1) Sc S7) ∧ ((1 : Int32) = 0 → ((r4 = 0 → ((o = (0 : Int64) → Inv (n + 1) Sc S7) ∧ (¬ o = (0 : Int64) → False))) ∧ (¬ r4 = 0 → ((o = (1 : Int64) → Inv (n + 1) Sc S7) ∧ (¬ o = (1 : Int64) → False))))))) ∧ (¬ r6 = 1 → False)))) := by
    intro hno
    rw [hs, F_X12_may]
    refine m_ownJobFor hW (fun j s hj hs ha hnm hse => (no_job hno hW hj hs ha hnm hse).elim) (fun _ S' g1 g2 => ⟨fun _ => ?_, fun q => absurd rfl q⟩)
    rw [F_X12_thrown]
    have hI := inv_same hR hB hc g2
    exact ⟨fun _ => ⟨fun _ => hI, fun q => absurd q (by decide)⟩, fun q => q (by rw [sw_o (by omega)]; exact g1)⟩
  refine x_needSession hR.2.1 hB (fun s hs' ha => ?_) (fun q => ⟨fun _ => bad (Or.inr q), fun q => absurd rfl q⟩)
  refine x_needJob hR.2.1 hB (fun i hi hnm hse => ?_) (fun q => ⟨fun _ => bad (Or.inl q), fun q => absurd rfl q⟩)
  rw [ha] at hse
  have hj4 := hB.2.1.at hi
  rw [hR.2.1, ha, x_hindrance hB.1 hB.2.1 hW hi]
  have hh := hind0 hse
  have hI := inv_same hR hB hc m0
  have e0 : ¬ (sw (uI Sm 0 0 0 0) w).1 0 0 0 = 0 → False := fun q => q (by rw [sw_o (by omega)]; exact uI_at)
  refine ⟨fun c => ⟨fun q => absurd rfl q, fun _ => ?_⟩, fun c => ⟨fun _ => ?_, fun q => absurd q (by decide)⟩⟩
  · have hm : mayc w (pl π i) s = false := by
      cases q : mayc w (pl π i) s
      · rfl
      · exact absurd (hh.mpr q) c
    show F_X12_may (nI s) a2 Sm _
    rw [hs, F_X12_may]
    refine m_ownJobFor hW (fun j s1 hj hs1 ha1 hnm1 hse1 => ⟨fun q => absurd q (ni_m1 (by omega)), fun _ => ?_⟩) (fun hno => (no_job hno hW hj4 hs' rfl hnm hse).elim)
    obtain rfl := same_ses hW hs1 hs' ha1 rfl
    obtain rfl := same_job hW hj hj4 hnm1 hnm hse1
    rw [m_mayBeClaimed (by rw [sw_w]; exact hW) hj, sw_w, hm]
    refine ⟨fun _ => ?_, fun q => absurd rfl q⟩
    rw [F_X12_thrown]
    exact ⟨fun _ => ⟨fun q => absurd rfl q, fun _ => ⟨fun _ => ⟨fun _ => hI, fun q => q rfl⟩, fun q => absurd rfl q⟩⟩, e0⟩
  · have hm := hh.mp c
    show F_X12_may (nI s) a2 Sm _
    rw [hs, F_X12_may]
    refine m_ownJobFor hW (fun j s1 hj hs1 ha1 hnm1 hse1 => ⟨fun q => absurd q (ni_m1 (by omega)), fun _ => ?_⟩) (fun hno => (no_job hno hW hj4 hs' rfl hnm hse).elim)
    obtain rfl := same_ses hW hs1 hs' ha1 rfl
    obtain rfl := same_job hW hj hj4 hnm1 hnm hse1
    rw [m_mayBeClaimed (by rw [sw_w]; exact hW) hj, sw_w, hm]
    refine ⟨fun q => absurd q (by decide), fun _ => ?_⟩
    rw [F_X12_thrown]
    exact ⟨fun _ => ⟨fun q => absurd rfl q, fun _ => ⟨fun q => absurd q (by decide), fun _ => ⟨fun _ => hI, fun q => q rfl⟩⟩⟩, e0⟩
end CS
end PU26
