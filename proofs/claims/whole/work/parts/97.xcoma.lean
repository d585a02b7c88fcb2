section PU17
section CA
variable {S S' : sSt} {t : Nat} {w w' : Wd} {π : List Nat} {ns np cm nl i : Nat}
/-- what committing all does to a world -/
theorem wcs_ok {s : Int32} : ∀ (l : List Nat) (w : Wd), (∀ j, j ∈ l → j < 24 ∧ lie w j = true) → (∀ x, x < 24 → num (wcs s l w).1 x = num w x) ∧ (∀ x, x < 24 → lkr w x ≠ s → lkr (wcs s l w).1 x = lkr w x) ∧ (∀ x, (x < 21 ∨ 1149 ≤ x) → (x < 1289 ∨ 1589 ≤ x) → x ≠ 14 → (wcs s l w).1 x = w x) := by
  intro l
  induction l with
  | nil => intro w _; exact ⟨fun _ _ => rfl, fun _ _ _ => rfl, fun _ _ _ _ => rfl⟩
  | cons j l ih =>
    intro w h
    have hj := h j (List.mem_cons_self)
    rw [wcs]
    by_cases c : lkr w j = s
    · rw [if_pos c]
      obtain ⟨a, b, d⟩ := ih (wc1 w j) (fun x hx => by
        have := h x (List.mem_cons_of_mem _ hx)
        exact ⟨this.1, by unfold lie at *; rw [wc1_num (by unfold lie; exact hj.2) this.1]; exact this.2⟩)
      refine ⟨fun x hx => (a x hx).trans (wc1_num hj.2 hx), fun x hx hne => ?_, fun x h1 h2 h3 => (d x h1 h2 h3).trans (wc1_out hj.2 (by omega) h2 h3)⟩
      have hxj : x ≠ j := fun e => hne (by rw [e]; exact c)
      have e1 : lkr (wc1 w j) x = lkr w x := by rw [wc1_lkr hj.2 hx, if_neg hxj]
      show lkr (wcs s l (wc1 w j)).1 x = lkr w x
      rw [b x hx (by rw [e1]; exact hne), e1]
    · rw [if_neg c]
      exact ih w (fun x hx => h x (List.mem_cons_of_mem _ hx))
theorem wcls_out {s x : Nat} (h1 : x ≠ 1149 + 27 * s + 2) (h2 : x ≠ 1149 + 27 * s + 3) : wcls w s x = w x := by unfold wcls; rw [up_ne h2, up_ne h1]
theorem wcls_2 {s : Nat} : wcls w s (1149 + 27 * s + 2) = 0 := by unfold wcls; rw [up_ne (by omega), up_eq]
theorem wcls_3 {s : Nat} : wcls w s (1149 + 27 * s + 3) = 0 := by unfold wcls; rw [up_eq]
theorem WF.cls (h : WF w ns np cm nl) {s : Nat} (hs : s < ns) : WF (wcls w s) ns np cm nl := by
  refine h.sess hs (fun x hx => wcls_out (by omega) (by omega)) ?_
  obtain ⟨b1, b2, b3, b4, b5, b6⟩ := h.ses s hs
  unfold SOK
  rw [wcls_2, wcls_3, wcls_out (by omega) (by omega), wcls_out (by omega) (by omega), wcls_out (by omega) (by omega), wcls_out (by omega) (by omega)]
  exact ⟨Or.inl rfl, ⟨0, by omega, rfl, fun _ => rfl⟩, b3, b4, b5, b6⟩
theorem zT.cls (hT : zT S t w π ns np nl) (hO : zOrd w π) (hn : ns ≤ 4) (hp : np ≤ 4) (hl : nl ≤ 60) {s : Nat} (hs : s < ns) : zT (uI (uI S 24 (4 * t + s) 3 0) 24 (4 * t + s) 4 0) t (wcls w s) π ns np nl := by
  obtain ⟨S', e'⟩ : ∃ S', S' = uI (uI S 24 (4 * t + s) 3 0) 24 (4 * t + s) 4 0 := ⟨_, rfl⟩
  rw [← e']
  have o : ∀ a b, ¬ (a = 24 ∧ b = 4 * t + s) → S'.1 a b = S.1 a b := fun a b c => by rw [e', uI_other c, uI_other c]
  have r : S'.2 = S.2 := by rw [e']; rfl
  have f3 : ∀ f, S'.1 24 (4 * t + s) f = if f = 3 ∨ f = 4 then 0 else S.1 24 (4 * t + s) f := by
    intro f
    rw [e']
    by_cases c4 : f = 4
    · rw [c4, uI_at, if_pos (Or.inr rfl)]
    · rw [uI_nc (by omega)]
      by_cases c3 : f = 3
      · rw [c3, uI_at, if_pos (Or.inl rfl)]
      · rw [uI_nc (by omega), if_neg (by omega)]
  refine ⟨by rw [o 13 t (by omega)]; exact hT.size, by unfold zRef; rw [r]; exact hT.ref, fun i hi => ?_, hT.sca.c (fun f _ => by rw [o 13 t (by omega)]) (o 17 t (by omega)) (o 18 t (by omega)) (fun x _ _ => wcls_out (by omega) (by omega)), fun s' hs' => ?_, hT.pln.c hp (fun p _ => o 25 _ (by omega)) (fun x _ _ => wcls_out (by omega) (by omega)), hT.log.c hl (o 19 t (by omega)) (o 20 t (by omega)) (fun x _ _ => wcls_out (by omega) (by omega))⟩
  · obtain ⟨a, b⟩ := hT.job i hi
    have hj4 := hO.at hi
    rw [r]
    refine ⟨a.c (o 21 _ (by omega)) (fun d _ => o 22 _ (by omega)) (fun x _ _ => wcls_out (by omega) (by omega)), fun s' k hs' hk hlk hsv => ?_⟩
    have hlk' : lkr w (pl π i) = nI s' := by unfold lkr at *; rw [wcls_out (by omega) (by omega)] at hlk; exact hlk
    by_cases c : s' = s
    · rw [c, wcls_3] at hsv
      exact absurd hsv (nI_nlt (b := 0) (by omega) (by omega))
    · rw [wcls_out (by omega) (by omega)] at hsv
      obtain ⟨b1, b2⟩ := b s' k hs' hk hlk' hsv
      have es : svb S' (S.2 14 t i) k = svb S (S.2 14 t i) k := by unfold svb; rw [o 21 _ (by omega)]
      rw [es, wcls_out (by unfold svp; omega) (by unfold svp; omega)]
      refine ⟨b1, fun z f hf => ?_⟩
      rw [cJ.c (o 21 _ (by omega)) (o 22 _ (by omega)), wcls_out (by unfold svp; omega) (by unfold svp; omega)]
      exact b2 z f hf
  · obtain ⟨a1, a2, a3, a4, a5⟩ := hT.ses s' hs'
    have a5' : QR S' (4 * t + s' + 1) (wcls w s) (1149 + 27 * s' + 4) := a5.c (fun k _ _ => o k _ (by omega)) (fun x _ _ => wcls_out (by omega) (by omega))
    by_cases c : s' = s
    · subst c
      exact ⟨by rw [f3, if_neg (by omega), wcls_out (by omega) (by omega)]; exact a1, by rw [f3, if_neg (by omega), wcls_out (by omega) (by omega)]; exact a2, by rw [f3, if_pos (Or.inl rfl), wcls_2], by rw [f3, if_pos (Or.inr rfl), wcls_3], a5'⟩
    · have e24 := o 24 (4 * t + s') (by omega)
      exact ⟨by rw [e24, wcls_out (by omega) (by omega)]; exact a1, by rw [e24, wcls_out (by omega) (by omega)]; exact a2, by rw [e24, wcls_out (by omega) (by omega)]; exact a3, by rw [e24, wcls_out (by omega) (by omega)]; exact a4, a5'⟩
theorem kc_cls {s : Nat} (hs : s < 4) : KC t S (uI (uI S 24 (4 * t + s) 3 0) 24 (4 * t + s) 4 0) := by
  refine ⟨(KP.rfl.i (by unfold ow; omega)).i (by unfold ow; omega), rfl, fun a _ _ => by funext b; rw [uI_other (by omega), uI_other (by omega)], fun q => by rw [uI_other (by omega), uI_other (by omega)], fun q => by rw [uI_other (by omega), uI_other (by omega)]⟩
/-- the world after a session has committed -/
def wcom (w : Wd) (π : List Nat) (s : Nat) : Wd := wcls (wcs (nI s) π w).1 s
theorem WS.com (h : WS w ns) (hn : ns ≤ 4) (hO : zOrd w π) {s : Nat} (hs : s < ns) : WS (wcom w π s) ns := by
  obtain ⟨a, b, d⟩ := wcs_ok (s := nI s) π w (fun j hj => ⟨hO.lt hj, hO.lies hj⟩)
  intro s' k j hs' hk hj hsv hf
  unfold wcom at *
  by_cases c : s' = s
  · rw [c, wcls_3] at hsv; exact absurd hsv (nI_nlt (b := 0) (by omega) (by omega))
  · rw [wcls_out (by omega) (by omega), d _ (by omega) (by omega) (by omega)] at hsv
    rw [wcls_out (by unfold svp; omega) (by unfold svp; omega), d _ (by unfold svp; omega) (by unfold svp; omega) (by unfold svp; omega)] at hf
    obtain ⟨g1, g2, gv, gm⟩ := h s' k j hs' hk hj hsv hf
    have hne : lkr w j ≠ nI s := by rw [g2]; intro q; exact c ((nI_eq (by omega) (by omega)).mp q)
    refine ⟨?_, ?_, gv.c (fun f hf => by rw [wcls_out (by unfold svp; omega) (by unfold svp; omega), d _ (by unfold svp; omega) (by unfold svp; omega) (by unfold svp; omega)]), fun k' q1 q2 q3 => ?_⟩
    · unfold lie at *
      have : num (wcls (wcs (nI s) π w).1 s) j = num w j := by
        rw [← a j hj]; unfold num; exact wcls_out (by omega) (by omega)
      rw [this]; exact g1
    · have : lkr (wcls (wcs (nI s) π w).1 s) j = lkr (wcs (nI s) π w).1 j := wcls_out (by omega) (by omega)
      rw [this, b j hj hne, g2]
    · rw [wcls_out (by omega) (by omega), d _ (by omega) (by omega) (by omega)] at q3
      rw [wcls_out (by unfold svp; omega) (by unfold svp; omega), d _ (by unfold svp; omega) (by unfold svp; omega) (by unfold svp; omega)]
      exact gm k' q1 q2 q3
theorem x_commitAll (h : zB S t w π ns np cm nl) {s : Nat} (hs : s < ns) {k : Int32 → sSt → Prop} (hk : ∀ S' nl', zB S' t (wcom w π s) π ns np cm nl' → KC t S S' → k (nI (wcs (nI s) π w).2) S') : F_X6_commitAll t (nI s) S k := by
  have hn := h.2.2.1.hns.1
  have hlen := h.2.1.len
  have hWS := h.2.2.2.com hn h.2.1 hs
  rw [F_X6_commitAll]
  suffices hh : ∀ r i m c (S1 : sSt) (w1 : Wd) nl, i + r = π.length → r < m → zT S1 t w1 π ns np nl → zOrd w1 π → WF w1 ns np cm nl → KC t S S1 → wcs (nI s) π w = ((wcs (nI s) (π.drop i) w1).1, c + (wcs (nI s) (π.drop i) w1).2) → B_X6_commitAll_4 m t (nI s) (nI c) (nI i) S1 k from
    hh π.length 0 fuel 0 S w nl (by omega) (fuel_gt (by omega)) h.1 h.2.1 h.2.2.1 KC.rfl (by rw [Nat.zero_add]; rfl)
  clear h
  intro r
  induction r with
  | zero =>
    intro i m c S1 w1 nl hi hm hT hO hW hK he
    obtain ⟨m, rfl⟩ : ∃ q, m = q + 1 := ⟨m - 1, by omega⟩
    have e : i = π.length := by omega
    have e2 : π.drop i = [] := List.drop_eq_nil_of_le (by omega)
    rw [e2] at he
    subst e
    simp only [B_X6_commitAll_4_s, Bb_X6_commitAll_4, hT.size, nI_leI (show π.length < 2147483648 by omega) (show π.length < 2147483648 by omega), Nat.le_refl, true_implies, not_true_eq_false, false_implies, and_true]
    rw [ix_n (by omega) (by omega), F_X5_close]
    intro Sa ea Sb eb
    rw [ea] at eb
    rw [eb]
    have hw1 : (wcs (nI s) π w).1 = w1 := by rw [he]; rfl
    have hc1 : (wcs (nI s) π w).2 = c := by rw [he]; rfl
    have := hk _ nl ⟨?_, ?_, ?_, hWS⟩ (hK.tr (kc_cls (s := s) (S := S1) (by omega)))
    · rw [hc1] at this; exact this
    · unfold wcom; rw [hw1]; exact hT.cls hO hn hW.hnp.1 hW.hnl.1 hs
    · unfold wcom; rw [hw1]; exact hO.c (fun j _ => wcls_out (by omega) (by omega))
    · unfold wcom; rw [hw1]; exact hW.cls hs
  | succ r ih =>
    intro i m c S1 w1 nl hi hm hT hO hW hK he
    obtain ⟨m, rfl⟩ : ∃ q, m = q + 1 := ⟨m - 1, by omega⟩
    have hil : i < π.length := by omega
    have hlt : ¬ nI π.length ≤ nI i := nI_ge hil (by omega)
    simp only [B_X6_commitAll_4_s, Bb_X6_commitAll_4, B_X6_commitAll_54, hT.size, hlt, false_implies, true_and, not_false_eq_true, true_implies]
    rw [ix_n (by omega) (by omega), x_isLockedBy hT hil]
    simp only [b2i_0, Bool.not_eq_false, forall_eq, nI_1]
    rw [drop_pl hil] at he
    refine ⟨fun q => ?_, fun q => ?_⟩
    · have hne : lkr w1 (pl π i) ≠ nI s := by
        intro z
        unfold mine at q
        simp [z, ni_m1 (show s < 2147483648 by omega)] at q
      rw [wcs, if_neg hne] at he
      exact ih (i + 1) m c S1 w1 nl (by omega) (by omega) hT hO hW hK he
    · have heq : lkr w1 (pl π i) = nI s := by
        unfold mine at q
        simp only [Bool.and_eq_true, decide_eq_true_eq] at q; exact q.2
      have hne : lkr w1 (pl π i) ≠ -1 := by rw [heq]; exact ni_m1 (by omega)
      rw [wcs, if_pos heq] at he
      refine x_com1 hT hO hW hil hne (fun S' hT' hK' => ?_)
      exact ih (i + 1) m (c + 1) S' _ _ (by omega) (by omega) hT' (wc1_ord hO (hO.la hil)) (hW.wc1 (hO.at hil) (hO.la hil) hne) (hK.tr hK') (by rw [he]; congr 1; omega)
/-- an act without a transaction is over: both sides -/
def wact (w : Wd) (π : List Nat) (s : Nat) : Wd := if opn w s then w else wcom w π s
theorem x_closeAct (h : zB S t w π ns np cm nl) {s : Nat} (hs : s < ns) {k : sSt → Prop} (hk : ∀ S' nl', zB S' t (wact w π s) π ns np cm nl' → KC t S S' → k S') : F_X6_closeAct t (nI s) S k := by
  have hn := h.2.2.1.hns.1
  rw [F_X6_closeAct, ix_n (by omega) (by omega)]
  have e3 : S.1 24 (4 * t + s) 3 = w (1149 + 27 * s + 2) := (h.1.ses s hs).2.2.1
  rw [e3]
  have ho := (h.2.2.1.ses s hs).1
  refine ⟨fun c => ?_, fun c => ?_⟩
  · have e : opn w s = true := by unfold opn; rw [ho.resolve_left c]; rfl
    have e2 : wact w π s = w := by unfold wact; rw [e]; rfl
    exact hk S nl (by rw [e2]; exact h) KC.rfl
  · have e : opn w s = false := by unfold opn; rw [c]; rfl
    have e2 : wact w π s = wcom w π s := by unfold wact; rw [e]; rfl
    exact x_commitAll h hs (fun S' nl' h1 h2 => hk S' nl' (by rw [e2]; exact h1) h2)
theorem m_isDone {S : sSt} (hO : zOrd w π) (hW : WF w ns np cm nl) {s : Nat} (hs : s < ns) {k : sSt → Prop} (hk : k (sw S (wact w π s))) : F_X12_isDone (nI s) (sw S w) k := by
  have hn := hW.hns.1
  rw [F_X12_isDone, m_isOpen (by omega), sw_w]
  simp only [b2i_0, Bool.not_eq_false]
  refine ⟨fun c => ?_, fun c => ?_⟩
  · have e2 : wact w π s = w := by unfold wact; rw [c]; rfl
    rw [e2] at hk; exact hk
  · have e2 : wact w π s = wcom w π s := by unfold wact; rw [c]; rfl
    rw [e2] at hk
    exact m_isCommitted hO hW hs hk
end CA
end PU17
