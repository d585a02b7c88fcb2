section PU71
/-! CALL table: what a line does to a world -/
section CS
variable {S S' : sSt} {t : Nat} {w w' : Wd} {π : List Nat} {ns np cm nl f j : Nat} {v : Int32}
theorem WF.set (h : WF w ns np cm nl) (hf : 9 ≤ f ∧ f < 21 ∧ f ≠ 14) (h10 : f = 10 → ∃ b, 1 ≤ b ∧ b ≤ 9 ∧ v = nI b) (h11 : f = 11 → ∃ b, 1 ≤ b ∧ b ≤ 99 ∧ v = nI b) (h12 : f = 12 → ∃ b, b ≤ 9 ∧ v = nI b) (h13 : f = 13 → ∃ b, 1 ≤ b ∧ b ≤ 9 ∧ v = nI b) (h15 : 15 ≤ f → ∃ b, 1 ≤ b ∧ b ≤ 4 ∧ v = nI b) : WF (va_up w f v) ns np cm nl := by
  have hnp := h.hnp.1
  have hn := h.hns.1
  refine ⟨by rw [up_ne (by omega)]; exact h.edt, ⟨h.hns.1, by rw [up_ne (by omega)]; exact h.hns.2⟩, ⟨h.hnp.1, by rw [up_ne (by omega)]; exact h.hnp.2⟩, ⟨h.hcm.1, by rw [up_ne (by omega)]; exact h.hcm.2⟩, ⟨h.hnl.1, by rw [up_ne (Ne.symm hf.2.2)]; exact h.hnl.2⟩, fun i hi => (h.job i hi).c (fun x _ _ => up_ne (by omega)), fun a b ha hb hl he => ?_, fun s' hs' => (h.ses s' hs').c (fun x _ _ => up_ne (by omega)), fun p' hp' => (h.pln p' hp').c (fun x _ _ => up_ne (by omega)), ?_, ?_, ?_, ?_, ?_, ?_, fun g hg => ?_⟩
  · have en : ∀ i, i < 24 → num (va_up w f v) i = num w i := fun i hi => up_ne (by omega)
    rw [en a ha, en b hb] at he
    refine h.one a b ha hb ?_ he
    unfold lie at *; rw [← en a ha]; exact hl
  · rw [up_ne (by omega)]; exact h.mono
  · rw [up_ne (by omega)]; exact h.wall
  · by_cases c : f = 10
    · rw [← c, up_eq]; exact h10 c
    · rw [up_ne (by omega)]; exact h.base
  · by_cases c : f = 11
    · rw [← c, up_eq]; exact h11 c
    · rw [up_ne (by omega)]; exact h.cap
  · by_cases c : f = 12
    · rw [← c, up_eq]; exact h12 c
    · rw [up_ne (by omega)]; exact h.jit
  · by_cases c : f = 13
    · rw [← c, up_eq]; exact h13 c
    · rw [up_ne (by omega)]; exact h.lim
  · by_cases c : f = 15 + g
    · rw [← c, up_eq]; exact h15 (by omega)
    · rw [up_ne (by omega)]; exact h.par g hg
theorem zB.set (h : zB S t w π ns np cm nl) (hf : 9 ≤ f ∧ f < 21 ∧ f ≠ 14) (hW : WF (va_up w f v) ns np cm nl) {a : Nat} (ha : (a = 18 ∧ j = f - 9 ∧ f ≤ 13) ∨ (a = 17 ∧ j = f - 15 ∧ 15 ≤ f)) : zB (uI S a t j v) t (va_up w f v) π ns np cm nl := by
  obtain ⟨hT, hO, hW0, hZ⟩ := h
  have hn := hW0.hns.1
  refine ⟨⟨?_, hT.ref, hT.job.c hO hn rfl (fun i _ => uI_other (by omega)) (fun i _ d _ => uI_other (by omega)) (fun x _ _ => up_ne (by omega)) (fun s _ => up_ne (by omega)) (fun x _ _ => up_ne (by omega)), ⟨fun g hg => ?_, fun g hg => ?_, fun g hg => ?_⟩, hT.ses.c hn (fun s _ => uI_other (by omega)) (fun s _ k _ _ => uI_other (by omega)) (fun x _ _ => up_ne (by omega)), hT.pln.c hW0.hnp.1 (fun p _ => uI_other (by omega)) (fun x _ _ => up_ne (by omega)), hT.log.c hW0.hnl.1 (uI_other (by omega)) (uI_other (by omega)) (fun x _ _ => up_ne (by omega))⟩, hO.c (fun j _ => up_ne (by omega)), hW, hZ.c hn (fun j _ => ⟨up_ne (by omega), up_ne (by omega)⟩) (fun s _ => up_ne (by omega)) (fun x _ _ => up_ne (by omega))⟩
  · rw [uI_other (by omega)]; exact hT.size
  · rw [uI_other (by omega), up_ne (by omega)]; exact hT.sca.1 g hg
  · by_cases c : a = 18 ∧ g = j
    · rw [c.1, c.2, uI_at, show 9 + j = f from by omega, up_eq]
    · rw [uI_nc (by omega), up_ne (by omega)]; exact hT.sca.2.1 g hg
  · by_cases c : a = 17 ∧ g = j
    · rw [c.1, c.2, uI_at, show 15 + j = f from by omega, up_eq]
    · rw [uI_nc (by omega), up_ne (by omega)]; exact hT.sca.2.2 g hg
/-- a session comes -/
def wse (w : Wd) (ns : Nat) (v : Int32) : Wd := fun x => if x = 0 then nI (ns + 1) else if 1149 + 27 * ns ≤ x ∧ x < 1176 + 27 * ns then (if x = 1149 + 27 * ns then v else if x = 1149 + 27 * ns + 1 then 5 else if x = 1149 + 27 * ns + 4 then 1 else 0) else w x
theorem wse_o {x : Nat} (h0 : x ≠ 0) (h : x < 1149 + 27 * ns ∨ 1176 + 27 * ns ≤ x) : wse w ns v x = w x := by unfold wse; rw [if_neg h0, if_neg (by omega)]
theorem wse_i {y : Nat} (h : y < 27) : wse w ns v (1149 + 27 * ns + y) = if y = 0 then v else if y = 1 then 5 else if y = 4 then 1 else 0 := by
  unfold wse
  rw [if_neg (by omega), if_pos (by omega)]
  by_cases a : y = 0
  · rw [if_pos (by omega), if_pos a]
  · rw [if_neg (by omega), if_neg a]
    by_cases b : y = 1
    · rw [if_pos (by omega), if_pos b]
    · rw [if_neg (by omega), if_neg b]
      by_cases c : y = 4
      · rw [if_pos (by omega), if_pos c]
      · rw [if_neg (by omega), if_neg c]
theorem WF.newS (h : WF w ns np cm nl) (hs : ns < 4) : WF (wse w ns v) (ns + 1) np cm nl := by
  have hnp := h.hnp.1
  have o : ∀ x, x ≠ 0 → (x < 1149 + 27 * ns ∨ 1176 + 27 * ns ≤ x) → wse w ns v x = w x := fun x a b => wse_o a b
  refine ⟨by rw [o _ (by omega) (by omega)]; exact h.edt, ⟨by omega, by unfold wse; rw [if_pos rfl]⟩, ⟨h.hnp.1, by rw [o _ (by omega) (by omega)]; exact h.hnp.2⟩, ⟨h.hcm.1, by rw [o _ (by omega) (by omega)]; exact h.hcm.2⟩, ⟨h.hnl.1, by rw [o _ (by omega) (by omega)]; exact h.hnl.2⟩, fun i hi => ?_, fun a b ha hb hl he => ?_, fun s' hs' => ?_, fun p' hp' => (h.pln p' hp').c (fun x _ _ => o x (by omega) (by omega)), ?_, ?_, ?_, ?_, ?_, ?_, fun g hg => ?_⟩
  · have := (h.job i hi).c (w' := wse w ns v) (fun x _ _ => o x (by omega) (by omega))
    rcases this with q | ⟨q1, q2, q3, q4, q5⟩
    · exact Or.inl q
    · exact Or.inr ⟨q1, q2, q3, q4.imp id (fun ⟨s, a, b⟩ => ⟨s, by omega, b⟩), q5⟩
  · have en : ∀ i, i < 24 → num (wse w ns v) i = num w i := fun i hi => o _ (by omega) (by omega)
    rw [en a ha, en b hb] at he
    refine h.one a b ha hb ?_ he
    unfold lie at *; rw [← en a ha]; exact hl
  · by_cases c : s' = ns
    · rw [c]
      unfold SOK
      rw [wse_i (y := 2) (by omega), wse_i (y := 3) (by omega), wse_i (y := 1) (by omega), wse_i (y := 4) (by omega), wse_i (y := 5) (by omega), wse_i (y := 18) (by omega)]
      exact ⟨Or.inl rfl, ⟨0, by omega, rfl, fun _ => rfl⟩, ⟨5, by omega, rfl⟩, ⟨1, by omega, by omega, rfl⟩, ⟨0, by omega, rfl⟩, ⟨0, by omega, rfl⟩⟩
    · exact (h.ses s' (by omega)).c (fun x _ _ => o x (by omega) (by omega))
  · rw [o _ (by omega) (by omega)]; exact h.mono
  · rw [o _ (by omega) (by omega)]; exact h.wall
  · rw [o _ (by omega) (by omega)]; exact h.base
  · rw [o _ (by omega) (by omega)]; exact h.cap
  · rw [o _ (by omega) (by omega)]; exact h.jit
  · rw [o _ (by omega) (by omega)]; exact h.lim
  · rw [o _ (by omega) (by omega)]; exact h.par g hg
theorem WS.newS (h : WS w ns) (hs : ns < 4) : WS (wse w ns v) (ns + 1) := by
  intro s k x hs' hk hx hsv hf
  by_cases c : s = ns
  · rw [c, wse_i (y := 3) (by omega)] at hsv
    exact absurd hsv (nI_pos (by omega))
  · rw [wse_o (by omega) (by omega)] at hsv
    rw [wse_o (by unfold svp; omega) (by unfold svp; omega)] at hf
    obtain ⟨g1, g2, gv, gm⟩ := h s k x (by omega) hk hx hsv hf
    refine ⟨by unfold lie num at *; rw [wse_o (by omega) (by omega)]; exact g1, by unfold lkr at *; rw [wse_o (by omega) (by omega)]; exact g2, gv.c (fun f hf => wse_o (by unfold svp; omega) (by unfold svp; omega)), fun k' q1 q2 q3 => ?_⟩
    rw [wse_o (by omega) (by omega)] at q3
    rw [wse_o (by unfold svp; omega) (by unfold svp; omega)]
    exact gm k' q1 q2 q3
theorem x_addSession (h : zB S t w π ns np cm nl) (hs : ns < 4) {k : sSt → Prop} (hk : ∀ S', zB S' t (wse w ns v) π (ns + 1) np cm nl → KP t S S' → S'.2 = S.2 → k S') : F_X6_addSession t v S k := by
  obtain ⟨hT, hO, hW, hZ⟩ := h
  have hlen := hO.len
  have e7 : S.1 13 t 7 = nI ns := (hT.sca.1 0 (by omega)).trans hW.hns.2
  rw [F_X6_addSession, e7]
  refine ⟨fun q => absurd q (nI_ge (b := 4) hs (by omega)), fun _ => ?_⟩
  rw [ix_n (by omega) (by omega), F_X5_start, F_X3_clear]
  rintro A1 e1 A2 e2 A3 e3 A4 e4 A5 e5
  rw [F_X5_close]
  rintro A6 e6 A7 e7' A8 e8
  have c7 : A7.1 13 t 7 = nI ns := by rw [e7', uI_other (by omega), e6, uI_other (by omega), e5, uI_other (by omega), e4, uI_other (by omega), e3, uI_other (by omega), e2, uI_other (by omega), e1, uI_other (by omega)]; exact e7
  rw [c7, nI_1] at e8
  have o : ∀ a b, ¬ (a = 3 ∧ b = 4 * t + ns + 1) → ¬ (a = 24 ∧ b = 4 * t + ns) → ¬ (a = 13 ∧ b = t) → A8.1 a b = S.1 a b := fun a b q1 q2 q3 => by rw [e8, uI_other q3, e7', uI_other q2, e6, uI_other q2, e5, uI_other q2, e4, uI_other q2, e3, uI_other q1, e2, uI_other q1, e1, uI_other q1]
  have r : A8.2 = S.2 := by rw [e8, e7', e6, e5, e4, e3, e2, e1]; rfl
  have o13 : ∀ f, f ≠ 7 → A8.1 13 t f = S.1 13 t f := fun f hf => by rw [e8, uI_nc (by omega), e7', uI_other (by omega), e6, uI_other (by omega), e5, uI_other (by omega), e4, uI_other (by omega), e3, uI_other (by omega), e2, uI_other (by omega), e1, uI_other (by omega)]
  have q5 : A8.1 3 (4 * t + ns + 1) 5 = 1 := by rw [e8, uI_other (by omega), e7', uI_other (by omega), e6, uI_other (by omega), e5, uI_other (by omega), e4, uI_other (by omega), e3, uI_nc (by omega), e2, uI_nc (by omega), e1, uI_at]
  have q6 : A8.1 3 (4 * t + ns + 1) 6 = 0 := by rw [e8, uI_other (by omega), e7', uI_other (by omega), e6, uI_other (by omega), e5, uI_other (by omega), e4, uI_other (by omega), e3, uI_nc (by omega), e2, uI_at]
  have q7 : A8.1 3 (4 * t + ns + 1) 7 = 0 := by rw [e8, uI_other (by omega), e7', uI_other (by omega), e6, uI_other (by omega), e5, uI_other (by omega), e4, uI_other (by omega), e3, uI_at]
  have s1 : A8.1 24 (4 * t + ns) 1 = v := by rw [e8, uI_other (by omega), e7', uI_nc (by omega), e6, uI_nc (by omega), e5, uI_nc (by omega), e4, uI_at]
  have s2 : A8.1 24 (4 * t + ns) 2 = 5 := by rw [e8, uI_other (by omega), e7', uI_nc (by omega), e6, uI_nc (by omega), e5, uI_at]
  have s3 : A8.1 24 (4 * t + ns) 3 = 0 := by rw [e8, uI_other (by omega), e7', uI_nc (by omega), e6, uI_at]
  have s4 : A8.1 24 (4 * t + ns) 4 = 0 := by rw [e8, uI_other (by omega), e7', uI_at]
  have wo : ∀ x, x ≠ 0 → (x < 1149 + 27 * ns ∨ 1176 + 27 * ns ≤ x) → wse w ns v x = w x := fun x a b => wse_o a b
  refine hk A8 ⟨⟨by rw [o13 6 (by omega)]; exact hT.size, by unfold zRef; rw [r]; exact hT.ref, fun i hi => ?_, ⟨fun f hf => ?_, fun g hg => ?_, fun g hg => ?_⟩, fun s' hs' => ?_, hT.pln.c hW.hnp.1 (fun p _ => o _ _ (by omega) (by omega) (by omega)) (fun x _ _ => wo x (by omega) (by omega)), hT.log.c hW.hnl.1 (o _ _ (by omega) (by omega) (by omega)) (o _ _ (by omega) (by omega) (by omega)) (fun x _ _ => wo x (by omega) (by omega))⟩, hO.c (fun j _ => wo _ (by omega) (by omega)), hW.newS hs, hZ.newS hs⟩ ⟨fun a b q => o a b (fun z => q (by unfold ow; omega)) (fun z => q (by unfold ow; omega)) (fun z => q (by unfold ow; omega)), fun a b _ => by rw [r]⟩ r
  · rw [r]
    have hjx := hO.at hi
    obtain ⟨a, b⟩ := hT.job i hi
    refine ⟨a.c (o _ _ (by omega) (by omega) (by omega)) (fun d hd => o _ _ (by omega) (by omega) (by omega)) (fun x _ _ => wo x (by omega) (by omega)), fun s k hs' hk' hlk hsv => ?_⟩
    have el : lkr (wse w ns v) (pl π i) = lkr w (pl π i) := wo _ (by omega) (by omega)
    rw [el] at hlk
    by_cases c : s = ns
    · rw [c, wse_i (y := 3) (by omega)] at hsv
      exact absurd hsv (nI_pos (by omega))
    · rw [wo _ (by omega) (by omega)] at hsv
      obtain ⟨b1, b2⟩ := b s k (by omega) hk' hlk hsv
      have es : svb A8 (S.2 14 t i) k = svb S (S.2 14 t i) k := by unfold svb; rw [o 21 _ (by omega) (by omega) (by omega)]
      rw [es, wo _ (by unfold svp; omega) (by unfold svp; omega)]
      refine ⟨b1, fun z f hf => ?_⟩
      have := b2 z f hf
      rw [wo _ (by unfold svp; omega) (by unfold svp; omega), ← this]
      have e21 : A8.1 21 (S.2 14 t i) = S.1 21 (S.2 14 t i) := o _ _ (by omega) (by omega) (by omega)
      have e22 : A8.1 22 (6 * S.2 14 t i + 2 + k) = S.1 22 (6 * S.2 14 t i + 2 + k) := o _ _ (by omega) (by omega) (by omega)
      exact cJ.g (fun f _ => by rw [e21]) (fun f _ => by rw [e22]) f
  · by_cases c : f = 0
    · rw [c, e8, uI_at]; unfold wse; rw [if_pos rfl]
    · rw [o13 _ (by omega), wo _ c (by omega)]; exact hT.sca.1 f hf
  · rw [o 18 t (by omega) (by omega) (by omega), wo _ (by omega) (by omega)]; exact hT.sca.2.1 g hg
  · rw [o 17 t (by omega) (by omega) (by omega), wo _ (by omega) (by omega)]; exact hT.sca.2.2 g hg
  · by_cases c : s' = ns
    · rw [c]
      have i0 : wse w ns v (1149 + 27 * ns) = v := wse_i (y := 0) (by omega)
      have i4 : wse w ns v (1149 + 27 * ns + 4) = 1 := wse_i (y := 4) (by omega)
      have i5 : wse w ns v (1149 + 27 * ns + 4 + 1) = 0 := wse_i (y := 5) (by omega)
      have i18 : wse w ns v (1149 + 27 * ns + 4 + 14) = 0 := wse_i (y := 18) (by omega)
      refine ⟨by rw [s1, i0], by rw [s2, wse_i (by omega)]; rfl, by rw [s3, wse_i (by omega)]; rfl, by rw [s4, wse_i (by omega)]; rfl, by rw [q5, i4], by rw [q6, i5], by rw [q7, i18], fun k hk' hl => ?_, fun k hk' hl => ?_⟩
      · rw [i5] at hl; exact absurd hl (nI_pos (by omega))
      · rw [i18] at hl; exact absurd hl (nI_pos (by omega))
    · obtain ⟨a1, a2, a3, a4, a5⟩ := hT.ses s' (by omega)
      have e24 : A8.1 24 (4 * t + s') = S.1 24 (4 * t + s') := o _ _ (by omega) (by omega) (by omega)
      exact ⟨by rw [e24, wo _ (by omega) (by omega)]; exact a1, by rw [e24, wo _ (by omega) (by omega)]; exact a2, by rw [e24, wo _ (by omega) (by omega)]; exact a3, by rw [e24, wo _ (by omega) (by omega)]; exact a4, a5.c (fun k k3 k8 => o _ _ (by omega) (by omega) (by omega)) (fun x _ _ => wo x (by omega) (by omega))⟩
end CS
end PU71
