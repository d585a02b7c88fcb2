section PU27
/-! CALLS THAT READ: again, plan, count, session -/
/-- when it may be tried for the k-th time -/
def agn (w : Wd) (B C L : Nat) (x kk : Int32) : Nat → Nat → Int32 → Nat → Int32
  | 0, _, _, _ => -1
  | d + 1, T, tm, i => if kk ≤ nI i then tm else if T + 1 < L then agn w B C L x kk d (T + 1) (tm + wtv w B C (T + 1) x) (i + 1) else -1
section CS
variable {Sc Sc' Sm S' S : sSt} {l sp n : Nat} {w w' : Wd} {π π' : List Nat} {ns np cm nl ns' np' cm' nl' : Nat}
theorem m_again (hJ : ∃ c, c ≤ 9 ∧ w 12 = nI c) {B C L : Nat} (hB : B ≤ 9) (hC : C ≤ 99) (hL : L ≤ 9) (eB : w 10 = nI B) (eC : w 11 = nI C) (eL : w 13 = nI L) {x kk : Int32} {k : Int32 → sSt → Prop} : ∀ d T tm i m, T + d = 10 → d < m → (B_X12_again_79 m x kk tm (nI T) (nI i) (sw S w) k ↔ k (agn w B C L x kk d T tm i) (sw S w)) ∨ d = 0 := by
  intro d
  induction d with
  | zero => intro T tm i m _ _; exact Or.inr rfl
  | succ d ih =>
    intro T tm i m hd hm
    left
    obtain ⟨m, rfl⟩ : ∃ y, m = y + 1 := ⟨m - 1, by omega⟩
    simp only [B_X12_again_79_s, Bb_X12_again_79, agn, sw_w, eL, nI_1, forall_eq]
    by_cases c : kk ≤ nI i
    · simp [c, -Int32.not_le]
    · rw [if_neg c]
      simp only [c, false_implies, true_and, not_false_eq_true, true_implies]
      by_cases c2 : T + 1 < L
      · rw [if_pos c2]
        have h2 := (nI_ltI (a := T + 1) (b := L) (by omega) (by omega)).mpr c2
        simp only [h2, true_implies, not_true_eq_false, false_implies, and_true]
        rw [m_waitOf hJ hB hC (by omega) eB eC]
        rcases ih (T + 1) (tm + wtv w B C (T + 1) x) (i + 1) m (by omega) (by omega) with q | q
        · exact q
        · omega
      · rw [if_neg c2]
        have h2 : ¬ nI (T + 1) < nI L := nI_nlt (by omega) (by omega)
        simp only [h2, false_implies, true_and, not_false_eq_true, true_implies]
theorem x_again {t : Nat} (hJ : ∃ c, c ≤ 9 ∧ w 12 = nI c) {B C L : Nat} (hB : B ≤ 9) (hC : C ≤ 99) (hL : L ≤ 9) (eB : S.1 18 t 1 = nI B) (eC : S.1 18 t 2 = nI C) (eJ : S.1 18 t 3 = w 12) (eL : S.1 18 t 4 = nI L) {x kk : Int32} {k : Int32 → sSt → Prop} : ∀ d T tm i m, T + d = 10 → d < m → (B_X6_tryTime_36 m t x kk tm (nI T) (nI i) S k ↔ k (agn w B C L x kk d T tm i) S) ∨ d = 0 := by
  intro d
  induction d with
  | zero => intro T tm i m _ _; exact Or.inr rfl
  | succ d ih =>
    intro T tm i m hd hm
    left
    obtain ⟨m, rfl⟩ : ∃ y, m = y + 1 := ⟨m - 1, by omega⟩
    simp only [B_X6_tryTime_36_s, Bb_X6_tryTime_36, agn, eL, nI_1, forall_eq]
    by_cases c : kk ≤ nI i
    · simp [c, -Int32.not_le]
    · rw [if_neg c]
      simp only [c, false_implies, true_and, not_false_eq_true, true_implies]
      by_cases c2 : T + 1 < L
      · rw [if_pos c2]
        have h2 := (nI_ltI (a := T + 1) (b := L) (by omega) (by omega)).mpr c2
        simp only [h2, true_implies, not_true_eq_false, false_implies, and_true]
        rw [x_waitOf (w := w) hJ hB hC (by omega) eB eC eJ]
        rcases ih (T + 1) (tm + wtv w B C (T + 1) x) (i + 1) m (by omega) (by omega) with q | q
        · exact q
        · omega
      · rw [if_neg c2]
        have h2 : ¬ nI (T + 1) < nI L := nI_nlt (by omega) (by omega)
        simp only [h2, false_implies, true_and, not_false_eq_true, true_implies]
theorem cs_32 (h : Inv n Sc Sm) {a1 a2 a3 a4 a5 : Int32} {o : Int64} : CS_32 a1 a2 a3 a4 a5 Sc Sm o (fun S1 S2 _ => Inv (n + 1) S1 S2) := by
  obtain ⟨l, sp, π, ns, np, cm, nl, hR, hB, hc⟩ := h
  obtain ⟨w, hw⟩ : ∃ w, w = Sm.1 1 0 := ⟨_, rfl⟩
  have hs : Sm = sw Sm w := by rw [hw, sw_s]
  rw [← hw] at hB
  have hW := hB.2.2.1
  have m0 : MK Sm (uI Sm 0 0 0 0) := MK.rfl.f (by omega)
  show FW_again a1 a2 a3 Sc o (fun r1 S2 o3 => F_X12_again a1 a2 a3 Sm (tl n r1 S2 o3))
  unfold FW_again F_X11_again
  refine x_viewJob hR.2.1 hB (fun i hi hnm hse ha => ?_) (fun hno => ⟨fun _ => ?_, fun q => absurd rfl q⟩)
  · have hj4 := hB.2.1.at hi
    have hv := x_ver hB.1 hi hse
    have hvl := ver_lt (w := w) (s := a1) hj4
    obtain ⟨-, -, -, -, ⟨T, t1, t2, t3⟩, -⟩ := hW.vver hj4 hse
    obtain ⟨B, C, L, hB9, hC99, hL9, eB, eC, eL⟩ := wf_lim hW
    rw [x_seenBy hB.1 hi, F_X6_tryTime, hR.2.1]
    have h3 : Sc.1 22 (cver (Sc.2 14 l i) w (pl π i) a1) 0 = w (ver w (pl π i) a1 + 3) := hv 3 (by omega)
    have h5 : Sc.1 22 (cver (Sc.2 14 l i) w (pl π i) a1) 1 = w (ver w (pl π i) a1 + 5) := hv 5 (by omega)
    have h6 : Sc.1 22 (cver (Sc.2 14 l i) w (pl π i) a1) 2 = w (ver w (pl π i) a1 + 6) := hv 6 (by omega)
    have hm : Sc.1 13 l 10 = w 3 := hB.1.sca.1 3 (by omega)
    rw [h3, h5, h6, hm]
    have mod : ∀ {k : Int32 → sSt → Prop} {v : Int32}, (w (ver w (pl π i) a1 + 3) ≠ 0 → v = -1) → (¬ 1 ≤ a3 → v = -1) → (w (ver w (pl π i) a1 + 3) = 0 → 1 ≤ a3 → v = agn w B C L a2 a3 (10 - T) T (if w (ver w (pl π i) a1 + 5) < w 3 then w 3 else w (ver w (pl π i) a1 + 5)) 1) → F_X12_again a1 a2 a3 Sm (tl n 0 Sc v.toInt64) := by
      intro k v g1 g2 g3
      rw [hs, F_X12_again]
      refine m_jobFor hW (fun j hj hnm1 hse1 _ => ⟨fun _ => ?_, fun q => absurd q (ni_m1 (by omega))⟩) (fun hno => (no_view hno hj4 hnm hse ha).elim)
      obtain rfl := same_job hW hj hj4 hnm1 hnm hse1
      rw [m_seen hj, sw_w, seeI, hse, if_pos rfl, na_3, ix_n (by omega) (by omega)]
      refine ⟨fun c => ?_, fun c => ⟨fun c2 => ?_, fun c2 => ?_⟩⟩
      · exact tl_ok uI_at (inv_same hR hB hc m0) (g1 c)
      · rw [na_5, ix_n (by omega) (by omega), forall_eq, na_6, ix_n (by omega) (by omega), forall_eq, t2]
        rcases m_again (S := uI Sm 0 0 0 0) hW.jit hB9 hC99 hL9 eB eC eL (10 - T) T _ 1 fuel (by omega) (fuel_gt (by omega)) with q | q
        · refine q.mpr ?_
          exact tl_ok uI_at (inv_same hR hB hc m0) (g3 c c2)
        · omega
      · exact tl_ok uI_at (inv_same hR hB hc m0) (g2 c2)
    refine ⟨fun c => mod (k := fun _ _ => True) (fun _ => rfl) (fun _ => rfl) (fun q => absurd q c), fun c => ⟨fun c2 => ?_, fun c2 => mod (k := fun _ _ => True) (fun q => absurd c q) (fun _ => rfl) (fun _ q => absurd q c2)⟩⟩
    rw [forall_eq, forall_eq, t2]
    rcases x_again (w := w) (S := Sc) (t := l) hW.jit hB9 hC99 hL9 ((hB.1.sca.2.1 1 (by omega)).trans eB) ((hB.1.sca.2.1 2 (by omega)).trans eC) (hB.1.sca.2.1 3 (by omega)) ((hB.1.sca.2.1 4 (by omega)).trans eL) (10 - T) T _ 1 fuel (by omega) (fuel_gt (by omega)) with q | q
    · refine q.mpr ?_
      exact mod (k := fun _ _ => True) (fun q => absurd c q) (fun q => absurd c2 q) (fun _ _ => rfl)
    · omega
  · show F_X12_again a1 a2 a3 Sm (tl n 1 Sc o)
    rw [hs, F_X12_again]
    exact m_jobFor hW (fun j hj hnm1 hse1 ha1 => (no_view hno hj hnm1 hse1 ha1).elim) (fun _ S' g1 g2 => ⟨fun q => absurd rfl q, fun _ => tl_ex g1 (by decide) (inv_same hR hB hc g2)⟩)
/-- an index that the model asks for by a count -/
theorem cnt_in {m : Nat} (hm : m < 1000000) {a : Int32} : (!(decide (a < 0) || decide (nI m - 1 < a))) = true ↔ ∃ y, y < m ∧ a = nI y := by
  rw [in_b]
  constructor
  · rintro ⟨c1, c2⟩
    obtain ⟨y, y1, y2⟩ := nI_of c1
    refine ⟨y, ?_, y2⟩
    rw [y2, Int32.lt_iff_toInt_lt, nI_toInt y1, Int32.toInt_sub, nI_toInt (by omega), show (1 : Int32).toInt = 1 from rfl, Int.bmod_eq_of_le (by omega) (by omega)] at c2
    omega
  · rintro ⟨y, y1, rfl⟩
    refine ⟨nI_pos (by omega), ?_⟩
    rw [Int32.lt_iff_toInt_lt, nI_toInt (by omega), Int32.toInt_sub, nI_toInt (by omega), show (1 : Int32).toInt = 1 from rfl, Int.bmod_eq_of_le (by omega) (by omega)]
    omega
theorem rng_in {m : Nat} (hm : m < 1000000) {a : Int32} : (!(decide (a < 0) || decide (nI m < a))) = true ↔ ∃ y, y ≤ m ∧ a = nI y := by
  rw [in_b]
  constructor
  · rintro ⟨c1, c2⟩
    obtain ⟨y, y1, y2⟩ := nI_of c1
    rw [y2, nI_ltI (by omega) y1] at c2
    exact ⟨y, by omega, y2⟩
  · rintro ⟨y, y1, rfl⟩
    exact ⟨nI_pos (by omega), nI_nlt (by omega) (by omega)⟩
theorem bfalse {b : Bool} {P : Prop} (h : b = true ↔ P) (hn : ¬ P) : b = false := by
  cases b
  · rfl
  · exact absurd (h.mp rfl) hn
theorem cs_26 (h : Inv n Sc Sm) {a1 a2 a3 a4 a5 : Int32} {o : Int64} : CS_26 a1 a2 a3 a4 a5 Sc Sm o (fun S1 S2 _ => Inv (n + 1) S1 S2) := by
  obtain ⟨l, sp, π, ns, np, cm, nl, hR, hB, hc⟩ := h
  obtain ⟨w, hw⟩ : ∃ w, w = Sm.1 1 0 := ⟨_, rfl⟩
  have hs : Sm = sw Sm w := by rw [hw, sw_s]
  rw [← hw] at hB
  have hW := hB.2.2.1
  have hp4 := hW.hnp.1
  have m0 : MK Sm (uI Sm 0 0 0 0) := MK.rfl.f (by omega)
  have hI0 := inv_same hR hB hc m0
  show FW_plan a1 a2 Sc o (fun r1 S2 o3 => F_X12_plan a1 a2 Sm (tl n r1 S2 o3))
  unfold FW_plan F_X11_plan
  rw [hR.2.1]
  have e8 : Sc.1 13 l 8 = nI np := (hB.1.sca.1 1 (by omega)).trans hW.hnp.2
  rw [e8, B_X11_plan_15]
  have bad : (¬ ∃ y, y < np ∧ a1 = nI y) → F_X12_plan a1 a2 Sm (tl n 1 Sc o) := by
    intro hno
    rw [hs, F_X12_plan]
    rintro S1 rfl
    rw [sw_c (by omega), sw_w, hW.hnp.2, m_in, bfalse (cnt_in (by omega)) hno]
    refine ⟨fun q => absurd rfl q, fun _ => ?_⟩
    rw [B_X12_plan_27, m_throws1, sw_c (by omega)]
    exact ⟨fun _ => tl_ex uI_at (by decide) (inv_same hR hB hc (m0.f (by omega))), fun q => absurd q (by decide)⟩
  refine ⟨fun c => ⟨fun _ => bad (fun ⟨y, y1, y2⟩ => ?_), fun q => absurd rfl q⟩, fun c => ⟨fun c2 => ?_, fun c2 => ⟨fun _ => bad (fun ⟨y, y1, y2⟩ => ?_), fun q => absurd rfl q⟩⟩⟩
  · rw [y2] at c; exact nI_pos (by omega) c
  rotate_left
  · rw [y2] at c2; exact c2 (nI_lt y1 (by omega))
  obtain ⟨p, p1, p2⟩ := nI_of c
  rw [p2, nI_ltI p1 (by omega)] at c2
  rw [p2, ix_n (by omega) (by omega)]
  have pf := hB.1.pln p c2
  have good : ∀ v, (a2 = 0 → v = w (1257 + 8 * p)) → (a2 = 1 → v = w (1257 + 8 * p + 1)) → (a2 = 2 → v = w (1257 + 8 * p + 5)) → (a2 = 3 → v = w (1257 + 8 * p + 6)) → (a2 = 4 → v = w (1257 + 8 * p + 7)) → (a2 = 5 → v = w (1257 + 8 * p + 1) + (w (1257 + 8 * p + 7) + 1) * w (1257 + 8 * p)) → (∃ y, y ≤ 5 ∧ a2 = nI y) → F_X12_plan (nI p) a2 Sm (tl n 0 Sc v.toInt64) := by
    intro v g0 g1 g2 g3 g4 g5 hin
    rw [hs, F_X12_plan]
    rintro S1 rfl
    rw [sw_c (by omega), sw_w, hW.hnp.2, m_in, (cnt_in (by omega)).mpr ⟨p, c2, rfl⟩]
    refine ⟨fun _ => ?_, fun q => absurd q (by decide)⟩
    rw [B_X12_plan_27, m_throws0]
    refine ⟨fun q => absurd rfl q, fun _ => ?_⟩
    rw [m_in, show (5 : Int32) = nI 5 from rfl, (rng_in (by omega)).mpr hin]
    refine ⟨fun _ => ?_, fun q => absurd q (by decide)⟩
    rw [B_X12_plan_49, m_throws0]
    refine ⟨fun _ => ?_, fun q => absurd rfl q⟩
    rw [m_planAt0, m_planAt1, m_planAt5, m_planAt6, m_planAt7]
    rw [ix_n (by omega) (by omega), ix_n (by omega) (by omega), ix_n (by omega) (by omega), ix_n (by omega) (by omega), ix_n (by omega) (by omega), m_planAt7, ix_n (by omega) (by omega), F_X12_timeOf, m_planAt1, ix_n (by omega) (by omega), m_planAt0, ix_n (by omega) (by omega), sw_w]
    refine ⟨fun q => tl_ok uI_at hI0 (g0 q), fun q0 => ⟨fun q => tl_ok uI_at hI0 (g1 q), fun q1 => ⟨fun q => tl_ok uI_at hI0 (g2 q), fun q2 => ⟨fun q => tl_ok uI_at hI0 (g3 q), fun q3 => ⟨fun q => tl_ok uI_at hI0 (g4 q), fun q4 => tl_ok uI_at hI0 (g5 ?_)⟩⟩⟩⟩⟩
    obtain ⟨y, y1, y2⟩ := hin
    rw [y2] at q0 q1 q2 q3 q4 ⊢
    rcases (show y = 0 ∨ y = 1 ∨ y = 2 ∨ y = 3 ∨ y = 4 ∨ y = 5 by omega) with rfl | rfl | rfl | rfl | rfl | rfl
    · exact absurd rfl q0
    · exact absurd rfl q1
    · exact absurd rfl q2
    · exact absurd rfl q3
    · exact absurd rfl q4
    · rfl
  have v0 := pf 0 (by omega)
  have v1 := pf 1 (by omega)
  have v5 := pf 5 (by omega)
  have v6 := pf 6 (by omega)
  have v7 := pf 7 (by omega)
  rw [Nat.add_zero] at v0
  rw [v0, v1, v5, v6, v7, F_X4_timeOf, v0, v1]
  refine ⟨fun c => good _ (fun _ => rfl) ?_ ?_ ?_ ?_ ?_ ⟨0, by omega, c⟩, fun c0 => ⟨fun c => good _ ?_ (fun _ => rfl) ?_ ?_ ?_ ?_ ⟨1, by omega, c⟩, fun c1 => ⟨fun c => good _ ?_ ?_ (fun _ => rfl) ?_ ?_ ?_ ⟨2, by omega, c⟩, fun c2 => ⟨fun c => good _ ?_ ?_ ?_ (fun _ => rfl) ?_ ?_ ⟨3, by omega, c⟩, fun c3 => ⟨fun c => good _ ?_ ?_ ?_ ?_ (fun _ => rfl) ?_ ⟨4, by omega, c⟩, fun c4 => ⟨fun c => good _ ?_ ?_ ?_ ?_ ?_ (fun _ => rfl) ⟨5, by omega, c⟩, fun c5 => ?_⟩⟩⟩⟩⟩⟩
  all_goals first | (intro q; rw [c] at q; exact absurd q (by decide)) | skip
  refine ⟨fun q => absurd q (by decide), fun _ => ⟨fun _ => ?_, fun q => absurd rfl q⟩⟩
  show F_X12_plan (nI p) a2 Sm (tl n 2 Sc o)
  rw [hs, F_X12_plan]
  rintro S1 rfl
  rw [sw_c (by omega), sw_w, hW.hnp.2, m_in, (cnt_in (by omega)).mpr ⟨p, by assumption, rfl⟩]
  refine ⟨fun _ => ?_, fun q => absurd q (by decide)⟩
  rw [B_X12_plan_27, m_throws0]
  refine ⟨fun q => absurd rfl q, fun _ => ?_⟩
  have hbad : ¬ ∃ y, y ≤ 5 ∧ a2 = nI y := by
    rintro ⟨y, y1, y2⟩
    rcases (show y = 0 ∨ y = 1 ∨ y = 2 ∨ y = 3 ∨ y = 4 ∨ y = 5 by omega) with rfl | rfl | rfl | rfl | rfl | rfl
    · exact c0 y2
    · exact c1 y2
    · exact absurd y2 (by assumption)
    · exact c3 y2
    · exact c4 y2
    · exact c5 y2
  rw [m_in, show (5 : Int32) = nI 5 from rfl, bfalse (rng_in (by omega)) hbad]
  · refine ⟨fun q => absurd rfl q, fun _ => ?_⟩
    rw [B_X12_plan_49, m_throws1, sw_c (by omega)]
    exact ⟨fun q => absurd q (by decide), fun _ => tl_ex uI_at (by decide) (inv_same hR hB hc (m0.f (by omega)))⟩
end CS
end PU27
