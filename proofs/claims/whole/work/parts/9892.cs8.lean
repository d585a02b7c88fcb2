section PU30
/-! CALLS: session, begin, log, was -/
section CS
variable {Sc Sc' Sm S' S : sSt} {l sp n : Nat} {w w' : Wd} {π π' : List Nat} {ns np cm nl ns' np' cm' nl' : Nat}
theorem cs_25 (h : Inv n Sc Sm) {a1 a2 a3 a4 a5 : Int32} {o : Int64} : CS_25 a1 a2 a3 a4 a5 Sc Sm o (fun S1 S2 _ => Inv (n + 1) S1 S2) := by
  obtain ⟨l, sp, π, ns, np, cm, nl, hR, hB, hc⟩ := h
  obtain ⟨w, hw⟩ : ∃ w, w = Sm.1 1 0 := ⟨_, rfl⟩
  have hs : Sm = sw Sm w := by rw [hw, sw_s]
  rw [← hw] at hB
  have hW := hB.2.2.1
  have hn := hW.hns.1
  have m0 : MK Sm (uI Sm 0 0 0 0) := MK.rfl.f (by omega)
  have hI := inv_same hR hB hc m0
  show FW_session a1 a2 Sc o (fun r1 S2 o3 => F_X12_session a1 a2 Sm (tl n r1 S2 o3))
  unfold FW_session F_X11_session
  refine x_needSession hR.2.1 hB (fun s hs' ha => ?_) (fun hno => ⟨fun _ => ?_, fun q => absurd rfl q⟩)
  · rw [ha, hR.2.1, ix_n (by omega) (by omega)]
    obtain ⟨s1, s2, s3, s4, s5⟩ := hB.1.ses s hs'
    have good : ∀ f v, f ≤ 9 → a2 = nI f → (v = if f = 0 then w (1149 + 27 * s + 2) else if f = 1 then w (1149 + 27 * s + 3) else if f = 2 then nI ((List.range' 0 24).countP (lbs w (nI s))) else if f = 3 then w (1149 + 27 * s) else if f = 4 then w (1149 + 27 * s + 1) else if f = 5 then w (1149 + 27 * s + 4) else nI ((List.range' 0 24).countP (hld w s (f - 6)))) → F_X12_session (nI s) a2 Sm (tl n 0 Sc v.toInt64) := by
      intro f v f1 f2 fv
      rw [hs, F_X12_session]
      rintro S1 rfl
      rw [sw_c (by omega)]
      refine m_needS' (fun q => absurd (hasS_of hW hs') (by rw [q]; decide)) (fun _ => ?_)
      rw [m_in, show (9 : Int32) = nI 9 from rfl, (rng_in (by omega)).mpr ⟨f, f1, f2⟩]
      refine ⟨fun _ => ?_, fun q => absurd q (by decide)⟩
      rw [B_X12_session_34, m_throws0]
      refine ⟨fun _ => ?_, fun q => absurd rfl q⟩
      rw [m_sessAt2, ix_n (by omega) (by omega), m_sessAt3, ix_n (by omega) (by omega), m_lockedBy, m_sessAt0, ix_n (by omega) (by omega), m_sessAt1, ix_n (by omega) (by omega), m_sessAt4, ix_n (by omega) (by omega), sw_w, f2]
      have key : ∀ y, v = y → tl n 0 Sc v.toInt64 y (sw (uI Sm 0 0 0 0) w) := fun y q => tl_ok uI_at hI q
      have nn : ∀ y, y ≠ f → y < 100 → ¬ nI f = nI y := fun y q1 q2 z => q1 ((nI_eq (by omega) (by omega)).mp z).symm
      rcases (show f = 0 ∨ f = 1 ∨ f = 2 ∨ f = 3 ∨ f = 4 ∨ f = 5 ∨ (6 ≤ f ∧ f ≤ 9) by omega) with rfl | rfl | rfl | rfl | rfl | rfl | q
      · exact ⟨fun _ => key _ fv, fun q => absurd rfl q⟩
      · exact ⟨fun q => absurd q (by decide), fun _ => ⟨fun _ => key _ fv, fun q => absurd rfl q⟩⟩
      · exact ⟨fun q => absurd q (by decide), fun _ => ⟨fun q => absurd q (by decide), fun _ => ⟨fun _ => key _ fv, fun q => absurd rfl q⟩⟩⟩
      · exact ⟨fun q => absurd q (by decide), fun _ => ⟨fun q => absurd q (by decide), fun _ => ⟨fun q => absurd q (by decide), fun _ => ⟨fun _ => key _ fv, fun q => absurd rfl q⟩⟩⟩⟩
      · exact ⟨fun q => absurd q (by decide), fun _ => ⟨fun q => absurd q (by decide), fun _ => ⟨fun q => absurd q (by decide), fun _ => ⟨fun q => absurd q (by decide), fun _ => ⟨fun _ => key _ fv, fun q => absurd rfl q⟩⟩⟩⟩⟩
      · exact ⟨fun q => absurd q (by decide), fun _ => ⟨fun q => absurd q (by decide), fun _ => ⟨fun q => absurd q (by decide), fun _ => ⟨fun q => absurd q (by decide), fun _ => ⟨fun q => absurd q (by decide), fun _ => ⟨fun _ => key _ fv, fun q => absurd rfl q⟩⟩⟩⟩⟩⟩
      · rw [if_neg (by omega), if_neg (by omega), if_neg (by omega), if_neg (by omega), if_neg (by omega), if_neg (by omega)] at fv
        refine ⟨fun z => absurd z (nn 0 (by omega) (by omega)), fun _ => ⟨fun z => absurd z (nn 1 (by omega) (by omega)), fun _ => ⟨fun z => absurd z (nn 2 (by omega) (by omega)), fun _ => ⟨fun z => absurd z (nn 3 (by omega) (by omega)), fun _ => ⟨fun z => absurd z (nn 4 (by omega) (by omega)), fun _ => ⟨fun z => absurd z (nn 5 (by omega) (by omega)), fun _ => ?_⟩⟩⟩⟩⟩⟩
        rw [show nI f - 6 = nI (f - 6) from by rw [show (6 : Int32) = nI 6 from rfl, pk_sub (by omega)], m_holdsOf (by omega) (by omega)]
        exact key _ fv
    rw [x_lockedBy hB (by omega)]
    rw [show (0 : Int32) = nI 0 from rfl, show (1 : Int32) = nI 1 from rfl, show (2 : Int32) = nI 2 from rfl, show (3 : Int32) = nI 3 from rfl, x_holds hB hs' (show 0 < 4 by omega), x_holds hB hs' (show 1 < 4 by omega), x_holds hB hs' (show 2 < 4 by omega), x_holds hB hs' (show 3 < 4 by omega)]
    refine ⟨fun c => ⟨fun c2 => good 0 _ (by omega) c (s3.symm.trans c2).symm, fun c2 => good 0 _ (by omega) c ?_⟩, fun _ => ⟨fun c => good 1 _ (by omega) c s4, fun _ => ⟨fun c => good 2 _ (by omega) c rfl, fun _ => ⟨fun c => good 3 _ (by omega) c s1, fun _ => ⟨fun c => good 4 _ (by omega) c s2, fun _ => ⟨fun c => good 5 _ (by omega) c s5.1, fun _ => ⟨fun c => good 6 _ (by omega) c rfl, fun _ => ⟨fun c => good 7 _ (by omega) c rfl, fun _ => ⟨fun c => good 8 _ (by omega) c rfl, fun _ => ⟨fun c => good 9 _ (by omega) c rfl, fun _ => ?_⟩⟩⟩⟩⟩⟩⟩⟩⟩⟩
    · rw [s3] at c2; exact ((hW.ses s hs').1.resolve_left c2).symm
    · refine ⟨fun q => absurd q (by decide), fun _ => ⟨fun _ => ?_, fun q => absurd rfl q⟩⟩
      have hbad : ¬ ∃ y, y ≤ 9 ∧ a2 = nI y := by
        rintro ⟨y, y1, y2⟩
        rcases (show y = 0 ∨ y = 1 ∨ y = 2 ∨ y = 3 ∨ y = 4 ∨ y = 5 ∨ y = 6 ∨ y = 7 ∨ y = 8 ∨ y = 9 by omega) with rfl | rfl | rfl | rfl | rfl | rfl | rfl | rfl | rfl | rfl <;> exact absurd y2 (by assumption)
      show F_X12_session (nI s) a2 Sm (tl n 2 Sc o)
      rw [hs, F_X12_session]
      rintro S1 rfl
      rw [sw_c (by omega)]
      refine m_needS' (fun q => absurd (hasS_of hW hs') (by rw [q]; decide)) (fun _ => ?_)
      rw [m_in, show (9 : Int32) = nI 9 from rfl, bfalse (rng_in (by omega)) hbad]
      refine ⟨fun q => absurd rfl q, fun _ => ?_⟩
      rw [B_X12_session_34, m_throws1, sw_c (by omega)]
      exact ⟨fun q => absurd q (by decide), fun _ => tl_ex uI_at (by decide) (inv_same hR hB hc (m0.f (by omega)))⟩
  · show F_X12_session a1 a2 Sm (tl n 1 Sc o)
    rw [hs, F_X12_session]
    rintro S1 rfl
    rw [sw_c (by omega)]
    exact m_needS' (fun _ S' g1 g2 => tl_ex g1 (by decide) (inv_same hR hB hc (m0.tr g2))) (fun q => absurd hno (by rw [q]; decide))
/-- a transaction begins: of the table and of the world -/
theorem zB.opens (h : zB S l w π ns np cm nl) {s : Nat} (hs : s < ns) (hop : opn w s = false) : zB (uI S 24 (4 * l + s) 3 1) l (va_up (va_up w (1149 + 27 * s + 2) 1) (1149 + 27 * s + 3) 0) π ns np cm nl := by
  obtain ⟨hT, hO, hW, hZ⟩ := h
  have hn := hW.hns.1
  obtain ⟨b1, ⟨k, k1, k2, k3⟩, b3, b4, b5, b6⟩ := hW.ses s hs
  have h0 : w (1149 + 27 * s + 2) = 0 := by
    rcases b1 with q | q
    · exact q
    · unfold opn at hop; rw [q] at hop; exact absurd hop (by decide)
  have hk0 := k3 h0
  have e3 : w (1149 + 27 * s + 3) = 0 := by rw [k2, hk0]; rfl
  have ew : va_up (va_up w (1149 + 27 * s + 2) 1) (1149 + 27 * s + 3) 0 = va_up w (1149 + 27 * s + 2) 1 := by
    funext x
    by_cases c : x = 1149 + 27 * s + 3
    · rw [c, up_eq, up_ne (by omega), e3]
    · rw [up_ne c]
  rw [ew]
  refine ⟨⟨?_, hT.ref, hT.job.c hO hn rfl (fun i _ => uI_other (by omega)) (fun i _ d _ => uI_other (by omega)) (fun x _ _ => up_ne (by omega)) (fun s _ => up_ne (by omega)) (fun x _ _ => up_ne (by omega)), hT.sca.c (fun f _ => ?_) (uI_other (by omega)) (uI_other (by omega)) (fun x _ _ => up_ne (by omega)), fun s' hs' => ?_, hT.pln.c hW.hnp.1 (fun p _ => uI_other (by omega)) (fun x _ _ => up_ne (by omega)), hT.log.c hW.hnl.1 (uI_other (by omega)) (uI_other (by omega)) (fun x _ _ => up_ne (by omega))⟩, hO.c (fun j _ => up_ne (by omega)), hW.sess hs (fun x hx => up_ne (by omega)) ?_, hZ.c hn (fun j _ => ⟨up_ne (by omega), up_ne (by omega)⟩) (fun s _ => up_ne (by omega)) (fun x _ _ => up_ne (by omega))⟩
  · rw [show (uI S 24 (4 * l + s) 3 1).1 13 l = S.1 13 l from uI_other (by omega)]; exact hT.size
  · rw [show (uI S 24 (4 * l + s) 3 1).1 13 l = S.1 13 l from uI_other (by omega)]
  · obtain ⟨a1, a2, a3, a4, a5⟩ := hT.ses s' hs'
    have a5' : QR (uI S 24 (4 * l + s) 3 1) (4 * l + s' + 1) (va_up w (1149 + 27 * s + 2) 1) (1149 + 27 * s' + 4) := a5.c (fun k _ _ => uI_other (by omega)) (fun x _ _ => up_ne (by omega))
    by_cases c : s' = s
    · subst c
      exact ⟨by rw [uI_nc (by omega), up_ne (by omega)]; exact a1, by rw [uI_nc (by omega), up_ne (by omega)]; exact a2, by rw [uI_at, up_eq], by rw [uI_nc (by omega), up_ne (by omega)]; exact a4, a5'⟩
    · exact ⟨by rw [uI_nc (by omega), up_ne (by omega)]; exact a1, by rw [uI_nc (by omega), up_ne (by omega)]; exact a2, by rw [uI_nc (by omega), up_ne (by omega)]; exact a3, by rw [uI_nc (by omega), up_ne (by omega)]; exact a4, a5'⟩
  · unfold SOK
    rw [up_eq, up_ne (by omega), up_ne (by omega), up_ne (by omega), up_ne (by omega), up_ne (by omega)]
    exact ⟨Or.inr rfl, ⟨k, k1, k2, fun q => absurd q (by decide)⟩, b3, b4, b5, b6⟩
theorem cs_6 (h : Inv n Sc Sm) {a1 a2 a3 a4 a5 : Int32} {o : Int64} : CS_6 a1 a2 a3 a4 a5 Sc Sm o (fun S1 S2 _ => Inv (n + 1) S1 S2) := by
  obtain ⟨l, sp, π, ns, np, cm, nl, hR, hB, hc⟩ := h
  obtain ⟨w, hw⟩ : ∃ w, w = Sm.1 1 0 := ⟨_, rfl⟩
  have hs : Sm = sw Sm w := by rw [hw, sw_s]
  rw [← hw] at hB
  have hW := hB.2.2.1
  have hn := hW.hns.1
  have m0 : MK Sm (uI Sm 0 0 0 0) := MK.rfl.f (by omega)
  show FW_begin a1 Sc o (fun r1 S2 o3 => F_X12_begin a1 Sm (tl n r1 S2 o3))
  unfold FW_begin F_X11_begin
  refine x_needSession hR.2.1 hB (fun s hs' ha => ?_) (fun hno => ⟨fun _ => ?_, fun q => absurd rfl q⟩)
  · rw [ha, hR.2.1, ix_n (by omega) (by omega)]
    have e3 : Sc.1 24 (4 * l + s) 3 = w (1149 + 27 * s + 2) := (hB.1.ses s hs').2.2.1
    rw [e3, B_X11_begin_26, B_X11_begin_26, F_X11_settle, F_X11_settle]
    refine ⟨fun c => ?_, fun c => ?_⟩
    · have hop : opn w s = false := by unfold opn; rw [c]; rfl
      rintro S1 rfl
      refine ⟨fun _ => ?_, fun q => absurd rfl q⟩
      rw [ix_n (by omega) (by omega), show (uI Sc 0 0 7 0).2 0 0 4 = l from hR.2.1]
      rintro S14 rfl
      have hB14 := (hB.f0 (f := 7) (v := 0)).opens hs' hop
      rw [show (uI (uI Sc 0 0 7 0) 24 (4 * l + s) 3 1).2 0 0 4 = l from hR.2.1, x_openT hB14]
      show F_X12_begin (nI s) Sm (tl n 0 _ _)
      rw [hs, F_X12_begin]
      rintro S1 rfl
      rw [sw_c (by omega)]
      refine m_needS' (fun q => absurd (hasS_of hW hs') (by rw [q]; decide)) (fun _ => ?_)
      rw [m_isOpen (by omega), sw_w, hop]
      refine ⟨fun _ => ?_, fun q => absurd rfl q⟩
      rw [B_X12_begin_32, m_refuses, if_pos rfl]
      refine ⟨fun _ => ?_, fun q => absurd rfl q⟩
      rw [m_sessAt2, ix_n (by omega) (by omega), forall_eq, sw_i, m_sessAt3, ix_n (by omega) (by omega), forall_eq, sw_i, m_opened hB14.2.2.1]
      exact tl_ok (by rw [uI_nc (by omega)]; exact uI_at) (inv_upy hR hB14 (c_le hc) (KP.rfl.i (by unfold ow; omega)) rfl mk_well) rfl
    · have hop : opn w s = true := by
        unfold opn
        rw [(hW.ses s hs').1.resolve_left c]; rfl
      rintro S1 rfl
      refine ⟨fun q => absurd q (by decide), fun _ => ?_⟩
      refine ⟨fun q => absurd q (by decide), fun _ => ⟨fun _ => ?_, fun q => absurd rfl q⟩⟩
      show F_X12_begin (nI s) Sm (tl n 2 _ _)
      rw [hs, F_X12_begin]
      rintro S1 rfl
      rw [sw_c (by omega)]
      refine m_needS' (fun q => absurd (hasS_of hW hs') (by rw [q]; decide)) (fun _ => ?_)
      rw [m_isOpen (by omega), sw_w, hop]
      refine ⟨fun q => absurd q (by decide), fun _ => ?_⟩
      rw [B_X12_begin_32, m_refuses, if_neg (by decide)]
      exact ⟨fun q => absurd q (by decide), fun _ => tl_ex uI_at (by decide) (inv_why hR hB hc mk_refuse3)⟩
  · show F_X12_begin a1 Sm (tl n 1 Sc o)
    rw [hs, F_X12_begin]
    rintro S1 rfl
    rw [sw_c (by omega)]
    exact m_needS' (fun _ S' g1 g2 => tl_ex g1 (by decide) (inv_same hR hB hc (m0.tr g2))) (fun q => absurd hno (by rw [q]; decide))
/-- a cell of the log, by its place -/
def lg (w : Wd) (nl c f : Nat) : Int32 := w (1289 + 5 * (nl - 1 - c) + f)
theorem x_cell (h : zB S l w π ns np cm nl) {c f : Nat} (hcl : c < nl) (hf : f < 5) {k : Int32 → sSt → Prop} : F_X2_cell l (nI c) (nI f) S k ↔ k (lg w nl c f) S := by
  obtain ⟨x, hx, x1, x2, x3, x4⟩ := h.1.log
  have hl := h.2.2.1.hnl.1
  rw [F_X2_cell, x1, x2]
  have e0 : ((nI x + nI c - (nI x + nI c) / 60 * 60) * 5 + nI f : Int32) = nI ((x + c) % 60 * 5 + f) := by
    rw [nI_add, show (60 : Int32) = nI 60 from rfl, pk_rem (by omega) (by omega) (by omega), show (5 : Int32) = nI 5 from rfl, pk_mul, nI_add]
  have h1 : ¬ nI c < 0 := nI_pos (by omega)
  have h2 : ¬ nI nl ≤ nI c := nI_ge hcl (by omega)
  have h3 : ¬ nI f < 0 := nI_pos (by omega)
  have h4 : nI f < 5 := nI_lt (b := 5) hf (by omega)
  rw [e0]
  simp only [h1, h2, h3, h4, false_implies, true_and, not_false_eq_true, true_implies, not_true_eq_false, and_true]
  rw [ix_n (by omega) (by omega)]
  unfold lg
  rw [x4 c hcl f hf]
theorem m_ofLog {a f : Nat} (ha : a < 60) (hf : f < 5) {k : Int32 → sSt → Prop} : F_X12_ofLog (nI a) (nI f) (sw S w) k ↔ k (w (1289 + 5 * a + f)) (sw S w) := by
  rw [F_X12_ofLog, show ((1289 + (5 * nI a)) + nI f : Int32) = nI (1289 + 5 * a + f) from by rw [show (1289 : Int32) = nI 1289 from rfl, show (5 : Int32) = nI 5 from rfl, pk_mul, nI_add, nI_add], ix_n (by omega) (by omega), sw_w]
theorem cs_41 (h : Inv n Sc Sm) {a1 a2 a3 a4 a5 : Int32} {o : Int64} : CS_41 a1 a2 a3 a4 a5 Sc Sm o (fun S1 S2 _ => Inv (n + 1) S1 S2) := by
  obtain ⟨l, sp, π, ns, np, cm, nl, hR, hB, hc⟩ := h
  obtain ⟨w, hw⟩ : ∃ w, w = Sm.1 1 0 := ⟨_, rfl⟩
  have hs : Sm = sw Sm w := by rw [hw, sw_s]
  rw [← hw] at hB
  have hW := hB.2.2.1
  have hl60 := hW.hnl.1
  have m0 : MK Sm (uI Sm 0 0 0 0) := MK.rfl.f (by omega)
  have hI := inv_same hR hB hc m0
  obtain ⟨x, hx, x1, x2, -⟩ := hB.1.log
  show FW_log a1 a2 Sc o (fun r1 S2 o3 => F_X12_log a1 a2 Sm (tl n r1 S2 o3))
  unfold FW_log F_X11_log
  rw [hR.2.1, B_X11_log_9, x2]
  have bad : (¬ ∃ y, y ≤ 4 ∧ a2 = nI y) → F_X12_log a1 a2 Sm (tl n 1 Sc o) := by
    intro hno
    rw [hs, F_X12_log]
    rintro S1 rfl
    rw [sw_c (by omega), m_in, show (4 : Int32) = nI 4 from rfl, bfalse (rng_in (by omega)) hno]
    refine ⟨fun q => absurd rfl q, fun _ => ?_⟩
    rw [B_X12_log_20, m_throws1, sw_c (by omega)]
    exact ⟨fun q => absurd q (by decide), fun _ => tl_ex uI_at (by decide) (inv_same hR hB hc (m0.f (by omega)))⟩
  have good : ∀ f v, f ≤ 4 → a2 = nI f → (∀ y, y < nl → a1 = nI y → v = w (1289 + 5 * y + f)) → ((¬ ∃ y, y < nl ∧ a1 = nI y) → v = -1) → F_X12_log a1 a2 Sm (tl n 0 Sc v.toInt64) := by
    intro f v f1 f2 g1 g0
    rw [hs, F_X12_log]
    rintro S1 rfl
    rw [sw_c (by omega), m_in, show (4 : Int32) = nI 4 from rfl, (rng_in (by omega)).mpr ⟨f, f1, f2⟩]
    refine ⟨fun _ => ?_, fun q => absurd q (by decide)⟩
    rw [B_X12_log_20, m_throws0]
    refine ⟨fun _ => ?_, fun q => absurd rfl q⟩
    rw [m_in, sw_w, hW.hnl.2]
    by_cases hin : ∃ y, y < nl ∧ a1 = nI y
    · rw [(cnt_in (by omega)).mpr hin]
      obtain ⟨y, y1, y2⟩ := hin
      refine ⟨fun q => absurd q (by decide), fun _ => ?_⟩
      rw [y2, f2, m_ofLog (by omega) (by omega)]
      exact tl_ok uI_at hI (g1 y y1 y2)
    · rw [bfalse (cnt_in (by omega)) hin]
      exact ⟨fun _ => tl_ok uI_at hI (g0 hin), fun q => absurd rfl q⟩
  refine ⟨fun c => ⟨fun _ => bad ?_, fun q => absurd rfl q⟩, fun c => ⟨fun c2 => ⟨fun c3 => ?_, fun c3 => ?_⟩, fun c2 => ⟨fun _ => bad ?_, fun q => absurd rfl q⟩⟩⟩
  · rintro ⟨y, y1, y2⟩; rw [y2] at c; exact nI_pos (by omega) c
  · obtain ⟨f, f1, f2⟩ := nI_of c
    rw [f2, show (5 : Int32) = nI 5 from rfl, nI_ltI f1 (by omega)] at c2
    have c3' : ¬ a1 < 0 := Int32.not_lt.mpr c3
    obtain ⟨y, y1, y2⟩ := nI_of c3'
    by_cases hy : y < nl
    · have e1 : nI nl - 1 - a1 = nI (nl - 1 - y) := by
        rw [y2, show (1 : Int32) = nI 1 from rfl, pk_sub (by omega), pk_sub (by omega)]
      rw [e1, f2, x_cell hB (by omega) c2, ← f2]
      refine good f _ (by omega) f2 (fun y' z1 z2 => ?_) (fun q => absurd ⟨y, hy, y2⟩ q)
      have : y' = y := by rw [y2, nI_eq (by omega) (by omega)] at z2; exact z2.symm
      rw [this]
      unfold lg
      congr 1; omega
    · have hneg : nI nl - 1 - a1 < 0 := by
        rw [y2, Int32.lt_iff_toInt_lt, Int32.toInt_sub, Int32.toInt_sub, nI_toInt (by omega), nI_toInt y1, show (1 : Int32).toInt = 1 from rfl, show (0 : Int32).toInt = 0 from rfl, Int.bmod_eq_of_le (n := (nl : Int) - 1) (by omega) (by omega), Int.bmod_eq_of_le (by omega) (by omega)]
        omega
      rw [F_X2_cell]
      refine ⟨fun _ => ?_, fun q => absurd hneg q⟩
      refine good f _ (by omega) f2 (fun y' z1 z2 => ?_) (fun _ => rfl)
      have : y' = y := by rw [y2, nI_eq (by omega) (by omega)] at z2; exact z2.symm
      omega
  · obtain ⟨f, f1, f2⟩ := nI_of c
    rw [f2, show (5 : Int32) = nI 5 from rfl, nI_ltI f1 (by omega)] at c2
    refine good f _ (by omega) f2 (fun y' z1 z2 => ?_) (fun _ => rfl)
    rw [z2] at c3; exact absurd (nI_pos' (by omega)) c3
  · rintro ⟨y, y1, y2⟩; rw [y2] at c2; exact c2 (nI_lt (b := 5) (by omega) (by omega))
end CS
end PU30
