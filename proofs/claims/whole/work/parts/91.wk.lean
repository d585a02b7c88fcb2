section PU11
/-! GOOD WORLDS STAY GOOD -/
section WK
variable {w w' : Wd} {ns np cm nl : Nat} {π : List Nat}
theorem VOK.c {p p' : Nat} (h : VOK w p) (hw : ∀ f, f < 22 → w' (p' + f) = w (p + f)) : VOK w' p' := by
  obtain ⟨⟨g, a1, a2⟩, ⟨c, b1, b2, b3⟩, ⟨x, c1, c2⟩, ⟨d, d1, d2⟩, ⟨n, e1, e2, e3⟩, ⟨m, f1, f2⟩, hk⟩ := h
  refine ⟨⟨g, a1, (hw 0 (by omega)).trans a2⟩, ⟨c, b1, b2, (hw 2 (by omega)).trans b3⟩, ⟨x, c1, (hw 3 (by omega)).trans c2⟩, ⟨d, d1, (hw 5 (by omega)).trans d2⟩, ⟨n, e1, (hw 6 (by omega)).trans e2, fun z => (hw 3 (by omega)).trans (e3 z)⟩, ⟨m, f1, (hw 7 (by omega)).trans f2⟩, fun k hk9 => ?_⟩
  obtain ⟨c, q1, q2⟩ := hk k hk9
  refine ⟨c, q1, ?_⟩
  rw [show p' + 13 + k = p' + (13 + k) from by omega, hw (13 + k) (by omega), show p + (13 + k) = p + 13 + k from by omega]
  exact q2
theorem JOK.c {j : Nat} (h : JOK w ns cm j) (hw : ∀ x, 21 + 47 * j ≤ x → x < 68 + 47 * j → w' x = w x) : JOK w' ns cm j := by
  unfold JOK num lkr at *
  rw [hw _ (by omega) (by omega), hw _ (by omega) (by omega), hw _ (by omega) (by omega)]
  rcases h with h | ⟨h1, h2, h3, h4, h5, h6⟩
  · exact Or.inl h
  · exact Or.inr ⟨h1, h2, h3, h4, fun c => (h5 c).c (fun f hf => hw _ (by omega) (by omega)), fun c => (h6 c).c (fun f hf => hw _ (by omega) (by omega))⟩
theorem SOK.c {s : Nat} (h : SOK w s) (hw : ∀ x, 1149 + 27 * s ≤ x → x < 1176 + 27 * s → w' x = w x) : SOK w' s := by
  unfold SOK at *
  rw [hw _ (by omega) (by omega), hw _ (by omega) (by omega), hw _ (by omega) (by omega), hw _ (by omega) (by omega), hw _ (by omega) (by omega), hw _ (by omega) (by omega)]
  exact h
theorem POK.c {p : Nat} (h : POK w p) (hw : ∀ x, 1257 + 8 * p ≤ x → x < 1265 + 8 * p → w' x = w x) : POK w' p := by
  unfold POK at *
  rw [hw _ (by omega) (by omega), hw _ (by omega) (by omega), hw _ (by omega) (by omega), hw _ (by omega) (by omega), hw _ (by omega) (by omega)]
  exact h
/-- one slot is changed -/
theorem WF.slot (h : WF w ns np cm nl) {j : Nat} (hw : ∀ x, ¬ (21 + 47 * j ≤ x ∧ x < 68 + 47 * j) → w' x = w x) (hj : j < 24) (hJ : JOK w' ns cm j) (hu : num w' j = num w j ∨ num w' j = -1) : WF w' ns np cm nl := by
  have en : ∀ i, i ≠ j → num w' i = num w i := fun i hi => hw _ (by omega)
  refine ⟨by rw [hw _ (by omega)]; exact h.edt, ⟨h.hns.1, by rw [hw _ (by omega)]; exact h.hns.2⟩, ⟨h.hnp.1, by rw [hw _ (by omega)]; exact h.hnp.2⟩, ⟨h.hcm.1, by rw [hw _ (by omega)]; exact h.hcm.2⟩, ⟨h.hnl.1, by rw [hw _ (by omega)]; exact h.hnl.2⟩, fun i hi => ?_, fun a b ha hb hl he => ?_, fun s hs => (h.ses s hs).c (fun x _ _ => hw x (by have := h.hns.1; omega)), fun p hp => (h.pln p hp).c (fun x _ _ => hw x (by have := h.hnp.1; omega)), ?_, ?_, ?_, ?_, ?_, ?_, fun g hg => ?_⟩
  · by_cases c : i = j
    · rw [c]; exact hJ
    · exact (h.job i hi).c (fun x _ _ => hw x (by omega))
  · have hla : num w' a ≠ -1 := lie_n hl
    by_cases ca : a = j
    · by_cases cb : b = j
      · rw [ca, cb]
      · rw [ca] at hla he
        rw [en b cb] at he
        rcases hu with hu | hu
        · rw [hu] at he hla
          rw [ca]; exact h.one j b hj hb (by unfold lie; simpa using hla) he
        · exact absurd hu hla
    · rw [en a ca] at he hla
      by_cases cb : b = j
      · rw [cb] at he ⊢
        rcases hu with hu | hu
        · rw [hu] at he; exact h.one a j ha hj (by unfold lie; simpa using hla) he
        · rw [hu] at he; exact absurd he hla
      · rw [en b cb] at he
        exact h.one a b ha hb (by unfold lie; simpa using hla) he
  · rw [hw _ (by omega)]; exact h.mono
  · rw [hw _ (by omega)]; exact h.wall
  · rw [hw _ (by omega)]; exact h.base
  · rw [hw _ (by omega)]; exact h.cap
  · rw [hw _ (by omega)]; exact h.jit
  · rw [hw _ (by omega)]; exact h.lim
  · rw [hw _ (by omega)]; exact h.par g hg
/-- a cell that nothing is asked of, or that stays good, is changed: outside the slots -/
theorem WF.out (h : WF w ns np cm nl) (h2 : w' 2 = w 2) (hw : ∀ x, x < 1289 → ¬ x = 2 → ¬ x = 5 → ¬ x = 7 → ¬ x = 8 → ¬ x = 9 → w' x = w x) : WF w' ns np cm nl := by
  refine ⟨by rw [h2]; exact h.edt, ⟨h.hns.1, by rw [hw _ (by omega) (by omega) (by omega) (by omega) (by omega) (by omega)]; exact h.hns.2⟩, ⟨h.hnp.1, by rw [hw _ (by omega) (by omega) (by omega) (by omega) (by omega) (by omega)]; exact h.hnp.2⟩, ⟨h.hcm.1, by rw [hw _ (by omega) (by omega) (by omega) (by omega) (by omega) (by omega)]; exact h.hcm.2⟩, ⟨h.hnl.1, by rw [hw _ (by omega) (by omega) (by omega) (by omega) (by omega) (by omega)]; exact h.hnl.2⟩, fun i hi => (h.job i hi).c (fun x _ _ => hw x (by omega) (by omega) (by omega) (by omega) (by omega) (by omega)), fun a b ha hb hl he => ?_, fun s hs => (h.ses s hs).c (fun x _ _ => hw x (by have := h.hns.1; omega) (by omega) (by omega) (by omega) (by omega) (by omega)), fun p hp => (h.pln p hp).c (fun x _ _ => hw x (by have := h.hnp.1; omega) (by omega) (by omega) (by omega) (by omega) (by omega)), ?_, ?_, ?_, ?_, ?_, ?_, fun g hg => ?_⟩
  · have en : ∀ i, i < 24 → num w' i = num w i := fun i hi => hw _ (by omega) (by omega) (by omega) (by omega) (by omega) (by omega)
    rw [en a ha, en b hb] at he
    refine h.one a b ha hb ?_ he
    unfold lie at *; rw [← en a ha]; exact hl
  · rw [hw _ (by omega) (by omega) (by omega) (by omega) (by omega) (by omega)]; exact h.mono
  · rw [hw _ (by omega) (by omega) (by omega) (by omega) (by omega) (by omega)]; exact h.wall
  · rw [hw _ (by omega) (by omega) (by omega) (by omega) (by omega) (by omega)]; exact h.base
  · rw [hw _ (by omega) (by omega) (by omega) (by omega) (by omega) (by omega)]; exact h.cap
  · rw [hw _ (by omega) (by omega) (by omega) (by omega) (by omega) (by omega)]; exact h.jit
  · rw [hw _ (by omega) (by omega) (by omega) (by omega) (by omega) (by omega)]; exact h.lim
  · rw [hw _ (by omega) (by omega) (by omega) (by omega) (by omega) (by omega)]; exact h.par g hg
/-- one session is changed -/
theorem WF.sess (h : WF w ns np cm nl) {s : Nat} (hs : s < ns) (hw : ∀ x, ¬ (1149 + 27 * s ≤ x ∧ x < 1176 + 27 * s) → w' x = w x) (hS : SOK w' s) : WF w' ns np cm nl := by
  have hn := h.hns.1
  refine ⟨by rw [hw _ (by omega)]; exact h.edt, ⟨h.hns.1, by rw [hw _ (by omega)]; exact h.hns.2⟩, ⟨h.hnp.1, by rw [hw _ (by omega)]; exact h.hnp.2⟩, ⟨h.hcm.1, by rw [hw _ (by omega)]; exact h.hcm.2⟩, ⟨h.hnl.1, by rw [hw _ (by omega)]; exact h.hnl.2⟩, fun i hi => (h.job i hi).c (fun x _ _ => hw x (by omega)), fun a b ha hb hl he => ?_, fun s' hs' => ?_, fun p hp => (h.pln p hp).c (fun x _ _ => hw x (by have := h.hnp.1; omega)), ?_, ?_, ?_, ?_, ?_, ?_, fun g hg => ?_⟩
  · have en : ∀ i, i < 24 → num w' i = num w i := fun i hi => hw _ (by omega)
    rw [en a ha, en b hb] at he
    refine h.one a b ha hb ?_ he
    unfold lie at *; rw [← en a ha]; exact hl
  · by_cases c : s' = s
    · rw [c]; exact hS
    · exact (h.ses s' hs').c (fun x _ _ => hw x (by omega))
  · rw [hw _ (by omega)]; exact h.mono
  · rw [hw _ (by omega)]; exact h.wall
  · rw [hw _ (by omega)]; exact h.base
  · rw [hw _ (by omega)]; exact h.cap
  · rw [hw _ (by omega)]; exact h.jit
  · rw [hw _ (by omega)]; exact h.lim
  · rw [hw _ (by omega)]; exact h.par g hg
theorem sees_wlk {j : Nat} {s : Nat} (hl : lie w j = true) (hs : s < 4) : sees (wlk w j (nI s)) j (nI s) = true ∧ ver (wlk w j (nI s)) j (nI s) = 21 + 47 * j + 25 := by
  have hm : mine (wlk w j (nI s)) j (nI s) = true := by
    unfold mine; rw [wlk_lk]; simp [ni_m1 (show s < 2147483648 by omega)]
  have hl' : lie (wlk w j (nI s)) j = true := by
    unfold lie num at *; rw [wlk_out (by omega)]; exact hl
  refine ⟨?_, ?_⟩
  · unfold sees; rw [hl', hm]; rfl
  · unfold ver; rw [hm]; rfl
theorem WF.lock (h : WF w ns np cm nl) {j s : Nat} (hj : j < 24) (hs : s < ns) (hl : lie w j = true) (ho : oth w j (nI s) = false) : WF (wlk w j (nI s)) ns np cm nl := by
  have hn := h.hns.1
  refine h.slot (fun x hx => wlk_out (by omega)) hj ?_ (Or.inl ?_)
  · rcases h.job j hj with q | ⟨q0, q1, q2, q3, q4, q5⟩
    · exact absurd q (lie_n hl)
    · refine Or.inr ⟨?_, ?_, Or.inr ?_, Or.inr ⟨s, hs, wlk_lk⟩, fun c => ?_, fun _ => ?_⟩
      · unfold num at *; rw [wlk_out (by omega)]; exact q0
      · rw [wlk_out (by omega)]; exact q1
      · rw [wlk_lk]; exact ni_m1 (by omega)
      · rw [wlk_out (by omega)] at c
        exact (q4 c).c (fun f hf => wlk_tab hf)
      · by_cases c : lkr w j = nI s
        · rw [wlk_same c]; exact q5 (by rw [c]; exact ni_m1 (by omega))
        · have c2 : lkr w j = -1 := by
            unfold oth at ho
            by_cases z : lkr w j = -1
            · exact z
            · simp [z, c] at ho
          have := q2.resolve_right (fun z => z c2)
          exact (q4 this).c (fun f hf => wlk_own hf c)
  · unfold num; rw [wlk_out (by omega)]
theorem WS.lock (h : WS w ns) (hn : ns ≤ 4) {j s : Nat} (hj : j < 24) (hs : s < ns) (ho : oth w j (nI s) = false) : WS (wlk w j (nI s)) ns := by
  intro s' k j' hs' hk hj' hsv hf
  rw [wlk_out (by omega)] at hsv
  rw [wlk_out (by unfold svp; omega)] at hf
  obtain ⟨a, b, bv, bm⟩ := h s' k j' hs' hk hj' hsv hf
  have bb : VOK (wlk w j (nI s)) (svp s' k j' + 1) ∧ ∀ k', k ≤ k' → k' < 4 → nI k' < wlk w j (nI s) (1149 + 27 * s' + 3) → wlk w j (nI s) (svp s' k' j') = 1 := by
    refine ⟨bv.c (fun f hf => wlk_out (by unfold svp; omega)), fun k' q1 q2 q3 => ?_⟩
    rw [wlk_out (by omega)] at q3
    rw [wlk_out (by unfold svp; omega)]
    exact bm k' q1 q2 q3
  by_cases c : j' = j
  · rw [c] at a b bb ⊢
    refine ⟨by unfold lie num at *; rw [wlk_out (by omega)]; exact a, ?_, bb⟩
    rw [wlk_lk]
    unfold oth at ho
    rw [b] at ho
    simp only [ne_eq, ni_m1 (show s' < 2147483648 by omega), not_false_eq_true, decide_true, Bool.true_and, decide_eq_false_iff_not, Decidable.not_not] at ho
    exact ho.symm
  · refine ⟨by unfold lie num at *; rw [wlk_out (by omega)]; exact a, ?_, bb⟩
    unfold lkr at *; rw [wlk_out (by omega)]; exact b
/-- cells of own versions, and others that tell nothing of locks -/
theorem WS.c (h : WS w ns) (hn : ns ≤ 4) (h1 : ∀ j, j < 24 → w' (21 + 47 * j) = w (21 + 47 * j) ∧ w' (21 + 47 * j + 2) = w (21 + 47 * j + 2)) (h2 : ∀ s, s < 4 → w' (1149 + 27 * s + 3) = w (1149 + 27 * s + 3)) (h3 : ∀ x, 1589 ≤ x → x < 10421 → w' x = w x) : WS w' ns := by
  intro s k j hs hk hj hsv hf
  rw [h2 s (by omega)] at hsv
  rw [h3 _ (by unfold svp; omega) (by unfold svp; omega)] at hf
  obtain ⟨a, b, bv, bm⟩ := h s k j hs hk hj hsv hf
  refine ⟨by unfold lie num at *; rw [(h1 j hj).1]; exact a, by unfold lkr at *; rw [(h1 j hj).2]; exact b, bv.c (fun f hf => h3 _ (by unfold svp; omega) (by unfold svp; omega)), fun k' q1 q2 q3 => ?_⟩
  rw [h2 s (by omega)] at q3
  rw [h3 _ (by unfold svp; omega) (by unfold svp; omega)]
  exact bm k' q1 q2 q3
/-- a field of a locked job's own version is written -/
theorem WF.own (h : WF w ns np cm nl) {j mf : Nat} (hj : j < 24) (hm : mf < 22) (hl : lkr w j ≠ -1) (hn : lie w j = true) {v : Int32} (hv : VOK (va_up w (21 + 47 * j + 25 + mf) v) (21 + 47 * j + 25)) : WF (va_up w (21 + 47 * j + 25 + mf) v) ns np cm nl := by
  refine h.slot (fun x hx => up_ne (by omega)) hj ?_ (Or.inl (up_ne (by omega)))
  rcases h.job j hj with q | ⟨q0, q1, q2, q3, q4, q5⟩
  · exact absurd q (lie_n hn)
  · unfold JOK num lkr at *
    rw [up_ne (by omega), up_ne (by omega), up_ne (by omega)]
    exact Or.inr ⟨q0, q1, q2, q3, fun c => (q4 c).c (fun f hf => up_ne (by omega)), fun _ => hv⟩
theorem VOK.free {p mf : Nat} (h : VOK w p) (hm : mf = 8 ∨ mf = 9 ∨ mf = 10 ∨ mf = 11 ∨ mf = 12 ∨ mf = 4 ∨ mf = 1) (v : Int32) : VOK (va_up w (p + mf) v) p := by
  obtain ⟨⟨g, a1, a2⟩, ⟨c, b1, b2, b3⟩, ⟨x, c1, c2⟩, ⟨d, d1, d2⟩, ⟨n, e1, e2, e3⟩, ⟨m, f1, f2⟩, hk⟩ := h
  refine ⟨⟨g, a1, by rw [up_ne (by omega)]; exact a2⟩, ⟨c, b1, b2, by rw [up_ne (by omega)]; exact b3⟩, ⟨x, c1, by rw [up_ne (by omega)]; exact c2⟩, ⟨d, d1, by rw [up_ne (by omega)]; exact d2⟩, ⟨n, e1, by rw [up_ne (by omega)]; exact e2, fun z => by rw [up_ne (by omega)]; exact e3 z⟩, ⟨m, f1, by rw [up_ne (by omega)]; exact f2⟩, fun k hk9 => by rw [up_ne (by omega)]; exact hk k hk9⟩
theorem VOK.state {p x : Nat} (h : VOK w p) (hx : x < 4) (h9 : w (p + 6) = nI 9 → x = 3) : VOK (va_up w (p + 3) (nI x)) p := by
  obtain ⟨⟨g, a1, a2⟩, ⟨c, b1, b2, b3⟩, ⟨x', c1, c2⟩, ⟨d, d1, d2⟩, ⟨n, e1, e2, e3⟩, ⟨m, f1, f2⟩, hk⟩ := h
  refine ⟨⟨g, a1, by rw [up_ne (by omega)]; exact a2⟩, ⟨c, b1, b2, by rw [up_ne (by omega)]; exact b3⟩, ⟨x, hx, up_eq⟩, ⟨d, d1, by rw [up_ne (by omega)]; exact d2⟩, ⟨n, e1, by rw [up_ne (by omega)]; exact e2, fun z => by rw [up_eq, h9 (by rw [e2, z])]; rfl⟩, ⟨m, f1, by rw [up_ne (by omega)]; exact f2⟩, fun k hk9 => by rw [up_ne (by omega)]; exact hk k hk9⟩
theorem VOK.due {p x : Nat} (h : VOK w p) (hx : x ≤ 10107) : VOK (va_up w (p + 5) (nI x)) p := by
  obtain ⟨⟨g, a1, a2⟩, ⟨c, b1, b2, b3⟩, ⟨x', c1, c2⟩, ⟨d, d1, d2⟩, ⟨n, e1, e2, e3⟩, ⟨m, f1, f2⟩, hk⟩ := h
  refine ⟨⟨g, a1, by rw [up_ne (by omega)]; exact a2⟩, ⟨c, b1, b2, by rw [up_ne (by omega)]; exact b3⟩, ⟨x', c1, by rw [up_ne (by omega)]; exact c2⟩, ⟨x, hx, up_eq⟩, ⟨n, e1, by rw [up_ne (by omega)]; exact e2, fun z => by rw [up_ne (by omega)]; exact e3 z⟩, ⟨m, f1, by rw [up_ne (by omega)]; exact f2⟩, fun k hk9 => by rw [up_ne (by omega)]; exact hk k hk9⟩
theorem VOK.tries0 {p : Nat} (h : VOK w p) : VOK (va_up w (p + 6) 0) p := by
  obtain ⟨⟨g, a1, a2⟩, ⟨c, b1, b2, b3⟩, ⟨x', c1, c2⟩, ⟨d, d1, d2⟩, ⟨n, e1, e2, e3⟩, ⟨m, f1, f2⟩, hk⟩ := h
  refine ⟨⟨g, a1, by rw [up_ne (by omega)]; exact a2⟩, ⟨c, b1, b2, by rw [up_ne (by omega)]; exact b3⟩, ⟨x', c1, by rw [up_ne (by omega)]; exact c2⟩, ⟨d, d1, by rw [up_ne (by omega)]; exact d2⟩, ⟨0, by omega, up_eq, fun z => absurd z (by omega)⟩, ⟨m, f1, by rw [up_ne (by omega)]; exact f2⟩, fun k hk9 => by rw [up_ne (by omega)]; exact hk k hk9⟩
end WK
end PU11
