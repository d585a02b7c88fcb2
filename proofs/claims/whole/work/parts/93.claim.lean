section PU13
/-! CLAIMS, of both sides -/
section WH
variable {w w' : Wd} {ns np cm nl : Nat} {π : List Nat}
theorem lkr_up {j x : Nat} {v : Int32} (h : x ≠ 21 + 47 * j + 2) : lkr (va_up w x v) j = lkr w j := up_ne (Ne.symm h)
theorem lie_up {j x : Nat} {v : Int32} (h : x ≠ 21 + 47 * j) : lie (va_up w x v) j = lie w j := by unfold lie num; rw [up_ne (Ne.symm h)]
theorem whd_out {j s x : Nat} (h : x < 21 + 47 * j + 2 ∨ 21 + 47 * j + 47 ≤ x) (h5 : x ≠ 5) (hl : x ≠ 1149 + 27 * s + 1) : whd w j s x = w x := by
  unfold whd
  rw [up_ne (by omega), up_ne (by omega), up_ne (by omega), up_ne (by omega), up_ne (by omega), up_ne (by omega), wlk_out (by omega)]
theorem VOK.t9 {p : Nat} (h : VOK w p) (h3 : w (p + 3) ≠ 3) : ¬ w (p + 6) = nI 9 := by
  obtain ⟨-, -, -, -, ⟨n, n1, n2, n3⟩, -⟩ := h
  intro q
  rw [n2, nI_eq (by omega) (by omega)] at q
  exact h3 (n3 q)
theorem WF.hold (h : WF w ns np cm nl) {j s : Nat} (hj : j < 24) (hs : s < ns) (hl : lie w j = true) (ho : oth w j (nI s) = false) (hst : w (ver w j (nI s) + 3) = 0) : WF (whd w j s) ns np cm nl := by
  have hn := h.hns.1
  have h1 := h.lock hj hs hl ho
  have st1 : wlk w j (nI s) (21 + 47 * j + 25 + 3) = 0 := by rw [wlk_ver (by omega) ho (by omega)]; exact hst
  have k1 : lkr (wlk w j (nI s)) j ≠ -1 := by rw [wlk_lk]; exact ni_m1 (by omega)
  have l1 : lie (wlk w j (nI s)) j = true := by unfold lie num at *; rw [wlk_out (by omega)]; exact hl
  unfold whd
  simp only []
  generalize wlk w j (nI s) = w1 at h1 st1 k1 l1
  have h2 : WF (va_up w1 5 (w1 5 + 1)) ns np cm nl := h1.out (up_ne (by omega)) (fun x _ _ _ _ _ _ => up_ne (by omega))
  have st2 : va_up w1 5 (w1 5 + 1) (21 + 47 * j + 25 + 3) = 0 := by rw [up_ne (by omega)]; exact st1
  have k2 : lkr (va_up w1 5 (w1 5 + 1)) j ≠ -1 := by rw [lkr_up (by omega)]; exact k1
  have l2 : lie (va_up w1 5 (w1 5 + 1)) j = true := by rw [lie_up (by omega)]; exact l1
  generalize va_up w1 5 (w1 5 + 1) = w2 at h2 st2 k2 l2
  have h3 : WF (va_up w2 (21 + 47 * j + 25 + 3) 1) ns np cm nl := h2.own hj (by omega) k2 l2 ((h2.vown hj l2 k2).state (x := 1) (by omega) (fun q => absurd q ((h2.vown hj l2 k2).t9 (by rw [st2]; decide))))
  have k3 : lkr (va_up w2 (21 + 47 * j + 25 + 3) 1) j ≠ -1 := by rw [lkr_up (by omega)]; exact k2
  have l3 : lie (va_up w2 (21 + 47 * j + 25 + 3) 1) j = true := by rw [lie_up (by omega)]; exact l2
  generalize va_up w2 (21 + 47 * j + 25 + 3) 1 = w3 at h3 k3 l3
  have h4 : WF (va_up w3 (21 + 47 * j + 25 + 9) (nI s)) ns np cm nl := h3.own hj (by omega) k3 l3 ((h3.vown hj l3 k3).free (by omega) _)
  have k4 : lkr (va_up w3 (21 + 47 * j + 25 + 9) (nI s)) j ≠ -1 := by rw [lkr_up (by omega)]; exact k3
  have l4 : lie (va_up w3 (21 + 47 * j + 25 + 9) (nI s)) j = true := by rw [lie_up (by omega)]; exact l3
  generalize va_up w3 (21 + 47 * j + 25 + 9) (nI s) = w4 at h4 k4 l4
  have h5 : WF (va_up w4 (21 + 47 * j + 25 + 8) (w4 5)) ns np cm nl := h4.own hj (by omega) k4 l4 ((h4.vown hj l4 k4).free (by omega) _)
  have k5 : lkr (va_up w4 (21 + 47 * j + 25 + 8) (w4 5)) j ≠ -1 := by rw [lkr_up (by omega)]; exact k4
  have l5 : lie (va_up w4 (21 + 47 * j + 25 + 8) (w4 5)) j = true := by rw [lie_up (by omega)]; exact l4
  generalize va_up w4 (21 + 47 * j + 25 + 8) (w4 5) = w5 at h5 k5 l5
  have h6 : WF (va_up w5 (21 + 47 * j + 25 + 10) (w5 3 + w5 9)) ns np cm nl := h5.own hj (by omega) k5 l5 ((h5.vown hj l5 k5).free (by omega) _)
  have k6 : lkr (va_up w5 (21 + 47 * j + 25 + 10) (w5 3 + w5 9)) j ≠ -1 := by rw [lkr_up (by omega)]; exact k5
  have l6 : lie (va_up w5 (21 + 47 * j + 25 + 10) (w5 3 + w5 9)) j = true := by rw [lie_up (by omega)]; exact l5
  generalize va_up w5 (21 + 47 * j + 25 + 10) (w5 3 + w5 9) = w6 at h6 k6 l6
  refine h6.sess hs (fun x hx => up_ne (by omega)) ?_
  obtain ⟨b1, b2, b3, b4, b5, b6⟩ := h6.ses s hs
  obtain ⟨⟨g, hg, hg'⟩, -⟩ := h6.vown hj l6 k6
  unfold SOK
  rw [up_ne (by omega), up_ne (by omega), up_eq, up_ne (by omega), up_ne (by omega), up_ne (by omega)]
  exact ⟨b1, b2, ⟨g, hg, hg'⟩, b4, b5, b6⟩
/-- n are claimed at most: the world then, and which slots -/
def wcl (s tc kc : Nat) (n : Nat) (w : Wd) : Wd × List Nat := match n with
  | 0 => (w, [])
  | n + 1 => match fsto w s tc kc with
    | none => (w, [])
    | some j => ((wcl s tc kc n (whd w j s)).1, j :: (wcl s tc kc n (whd w j s)).2)
theorem wcl_n {s tc kc n : Nat} (h : fsto w s tc kc = none) : wcl s tc kc n w = (w, []) := by
  cases n
  · rfl
  · rw [wcl, h]
theorem wcl_s {s tc kc n j : Nat} (h : fsto w s tc kc = some j) : wcl s tc kc (n + 1) w = ((wcl s tc kc n (whd w j s)).1, j :: (wcl s tc kc n (whd w j s)).2) := by
  rw [wcl, h]
/-- of the first: what is known -/
theorem fsto_is (hW : WF w ns np cm nl) {s tc kc j : Nat} (h : fsto w s tc kc = some j) : j < 24 ∧ cnd w s tc j = true ∧ oth w j (nI s) = false ∧ stt w j (nI s) 0 = true ∧ lie w j = true := by
  have hB := fsto_Bst hW s tc kc
  rw [h] at hB
  have hc := hB.2.1
  refine ⟨hB.1, hc, ?_, ?_, sees_lie (cnd_sees hc)⟩
  · simp only [cnd, mayc, Bool.and_eq_true, Bool.not_eq_true'] at hc; exact hc.1.1.1.1.2
  · simp only [cnd, mayc, Bool.and_eq_true] at hc; exact hc.1.1.1.1.1
theorem stt_is {j : Nat} {s x : Int32} (h : stt w j s x = true) : w (ver w j s + 3) = x := by
  simp only [stt, Bool.and_eq_true, decide_eq_true_eq] at h; exact h.2
end WH
theorem sw_c {S : sSt} {w : Wd} {k i j : Nat} {v : Int32} (h : ¬ (k = 1 ∧ i = 0)) : uI (sw S w) k i j v = sw (uI S k i j v) w := by
  unfold sw uA uI
  refine Prod.ext (funext fun k' => funext fun i' => funext fun x => ?_) rfl
  by_cases c : k' = k ∧ i' = i ∧ x = j
  · obtain ⟨rfl, rfl, rfl⟩ := c
    simp [h]
  · simp [c]
section MC
variable {S : sSt} {w : Wd} {ns np cm nl : Nat}
theorem m_claims {s : Nat} (hs : s < ns) {tc kc : Nat} (ht4 : tc ≤ 4) (hk4 : kc ≤ 4) {all : Nat} (ha : all ≤ 6) (hW : WF w ns np cm nl) (htc : w (1149 + 27 * s + 5) = nI tc) (hkc : w (1149 + 27 * s + 18) = nI kc) (hall : w (1149 + 27 * s + 4) = nI all) {k : Int32 → sSt → Prop}
    (hk : ∀ S', S'.1 1 0 = (wcl s tc kc all w).1 → (∀ a b, a ≠ 1 → a ≠ 8 → S'.1 a b = S.1 a b) → (∀ m, m < (wcl s tc kc all w).2.length → S'.1 8 0 m = nI ((wcl s tc kc all w).2.getD m 0)) → k (nI (wcl s tc kc all w).2.length) S') : F_X12_claims (nI s) (sw S w) k := by
  have hn := hW.hns.1
  rw [F_X12_claims, m_sessAt4, ix_n (by omega) (by omega), sw_w, forall_eq, hall]
  rw [m_firstFor (by rw [sw_w]; exact hW) (by omega) ht4 (by rw [sw_w]; exact htc) hk4 (by rw [sw_w]; exact hkc), sw_w]
  suffices h : ∀ r c m (S : sSt) (w : Wd) (k : Int32 → sSt → Prop), c + r = all → r < m → WF w ns np cm nl → w (1149 + 27 * s + 5) = nI tc → w (1149 + 27 * s + 18) = nI kc → (∀ S', S'.1 1 0 = (wcl s tc kc r w).1 → (∀ a b, a ≠ 1 → a ≠ 8 → S'.1 a b = S.1 a b) → (∀ m, m < (wcl s tc kc r w).2.length → S'.1 8 0 (c + m) = nI ((wcl s tc kc r w).2.getD m 0)) → (∀ x, x < c → S'.1 8 0 x = S.1 8 0 x) → k (nI (c + (wcl s tc kc r w).2.length)) S') → B_X12_claims_20 m (nI s) (nI c) (nI all) (oI (fsto w s tc kc)) (sw S w) k by
    refine h all 0 fuel S w k (by omega) (fuel_gt (by omega)) hW htc hkc (fun S' g1 g2 g3 _ => ?_)
    have := hk S' g1 g2 (fun m hm => by have := g3 m hm; rw [Nat.zero_add] at this; exact this)
    rw [Nat.zero_add]; exact this
  clear hk hall
  intro r
  induction r with
  | zero =>
    intro c m S w k hc hm hW htc hkc hk
    obtain ⟨m, rfl⟩ : ∃ q, m = q + 1 := ⟨m - 1, by omega⟩
    have : c = all := by omega
    subst this
    have h0 : k (nI c) (sw S w) := hk (sw S w) sw_w (fun a b q1 _ => sw_o (by omega)) (fun m hm => absurd hm (Nat.not_lt_zero m)) (fun x _ => by rw [sw_o (by omega)])
    simp only [B_X12_claims_20_s, Bb_X12_claims_20]
    refine ⟨fun _ => h0, fun _ => ⟨fun _ => h0, fun q => absurd (nI_le (Nat.le_refl c) (by omega)) q⟩⟩
  | succ r ih =>
    intro c m S w k hc hm hW htc hkc hk
    obtain ⟨m, rfl⟩ : ∃ q, m = q + 1 := ⟨m - 1, by omega⟩
    have h : ¬ nI all ≤ nI c := nI_ge (by omega) (by omega)
    simp only [B_X12_claims_20_s, Bb_X12_claims_20]
    cases hf : fsto w s tc kc with
    | none =>
      have e : wcl s tc kc (r + 1) w = (w, []) := wcl_n hf
      rw [e] at hk
      simp only [oI]
      refine ⟨fun _ => hk (sw S w) sw_w (fun a b q1 _ => sw_o (by omega)) (fun m hm => absurd hm (Nat.not_lt_zero m)) (fun x _ => by rw [sw_o (by omega)]), fun q => absurd trivial q⟩
    | some j =>
      obtain ⟨hj, hcn, ho, hst, hl⟩ := fsto_is hW hf
      have e : wcl s tc kc (r + 1) w = _ := wcl_s hf
      rw [e] at hk
      have hW' := hW.hold hj hs hl ho (stt_is hst)
      simp only [oI, ni_m1 (show j < 2147483648 by omega), h, false_implies, not_false_eq_true, true_implies, true_and]
      rw [m_locks hj]
      simp only [forall_eq, sw_i, sw_w, na_3, na_8, na_9, na_10, na_0, m_sessAt1]
      rw [ix_n (by omega) (by omega), ix_n (by omega) (by omega), ix_n (by omega) (by omega), ix_n (by omega) (by omega)]
      rw [ix_n (by omega) (by omega), ix_n (by omega) (by omega), ix_n (by omega) (by omega)]
      simp only [forall_eq, sw_i, sw_w, nI_1]
      rw [sw_c (by omega)]
      have ew : ∀ g : Wd → Prop, g (whd w j s) → g (whd w j s) := fun _ q => q
      have eN : whd w j s = va_up (va_up (va_up (va_up (va_up (va_up (wlk w j (nI s)) 5 (wlk w j (nI s) 5 + 1)) (21 + 47 * j + 25 + 3) 1) (21 + 47 * j + 25 + 9) (nI s)) (21 + 47 * j + 25 + 8) (va_up (va_up (va_up (wlk w j (nI s)) 5 (wlk w j (nI s) 5 + 1)) (21 + 47 * j + 25 + 3) 1) (21 + 47 * j + 25 + 9) (nI s) 5)) (21 + 47 * j + 25 + 10) (va_up (va_up (va_up (va_up (wlk w j (nI s)) 5 (wlk w j (nI s) 5 + 1)) (21 + 47 * j + 25 + 3) 1) (21 + 47 * j + 25 + 9) (nI s)) (21 + 47 * j + 25 + 8) (va_up (va_up (va_up (wlk w j (nI s)) 5 (wlk w j (nI s) 5 + 1)) (21 + 47 * j + 25 + 3) 1) (21 + 47 * j + 25 + 9) (nI s) 5) 3 + va_up (va_up (va_up (va_up (wlk w j (nI s)) 5 (wlk w j (nI s) 5 + 1)) (21 + 47 * j + 25 + 3) 1) (21 + 47 * j + 25 + 9) (nI s)) (21 + 47 * j + 25 + 8) (va_up (va_up (va_up (wlk w j (nI s)) 5 (wlk w j (nI s) 5 + 1)) (21 + 47 * j + 25 + 3) 1) (21 + 47 * j + 25 + 9) (nI s) 5) 9)) (1149 + 27 * s + 1) (va_up (va_up (va_up (va_up (va_up (wlk w j (nI s)) 5 (wlk w j (nI s) 5 + 1)) (21 + 47 * j + 25 + 3) 1) (21 + 47 * j + 25 + 9) (nI s)) (21 + 47 * j + 25 + 8) (va_up (va_up (va_up (wlk w j (nI s)) 5 (wlk w j (nI s) 5 + 1)) (21 + 47 * j + 25 + 3) 1) (21 + 47 * j + 25 + 9) (nI s) 5)) (21 + 47 * j + 25 + 10) (va_up (va_up (va_up (va_up (wlk w j (nI s)) 5 (wlk w j (nI s) 5 + 1)) (21 + 47 * j + 25 + 3) 1) (21 + 47 * j + 25 + 9) (nI s)) (21 + 47 * j + 25 + 8) (va_up (va_up (va_up (wlk w j (nI s)) 5 (wlk w j (nI s) 5 + 1)) (21 + 47 * j + 25 + 3) 1) (21 + 47 * j + 25 + 9) (nI s) 5) 3 + va_up (va_up (va_up (va_up (wlk w j (nI s)) 5 (wlk w j (nI s) 5 + 1)) (21 + 47 * j + 25 + 3) 1) (21 + 47 * j + 25 + 9) (nI s)) (21 + 47 * j + 25 + 8) (va_up (va_up (va_up (wlk w j (nI s)) 5 (wlk w j (nI s) 5 + 1)) (21 + 47 * j + 25 + 3) 1) (21 + 47 * j + 25 + 9) (nI s) 5) 9) (21 + 47 * j + 25)) := rfl
      rw [← eN]
      have htc' : whd w j s (1149 + 27 * s + 5) = nI tc := by rw [whd_out (by omega) (by omega) (by omega)]; exact htc
      have hkc' : whd w j s (1149 + 27 * s + 18) = nI kc := by rw [whd_out (by omega) (by omega) (by omega)]; exact hkc
      rw [m_firstFor (by rw [sw_w]; exact hW') (by omega) ht4 (by rw [sw_w]; exact htc') hk4 (by rw [sw_w]; exact hkc'), sw_w]
      refine ih (c + 1) m _ _ _ (by omega) (by omega) hW' htc' hkc' (fun S' g1 g2 g3 g4 => ?_)
      have := hk S' g1 (fun a b q1 q2 => (g2 a b q1 q2).trans (uI_other (by omega))) (fun m hm => ?_) (fun x hx => ?_)
      · rw [List.length_cons] at this
        rw [show c + 1 + (wcl s tc kc r (whd w j s)).2.length = c + ((wcl s tc kc r (whd w j s)).2.length + 1) from by omega]; exact this
      · cases m with
        | zero =>
          rw [Nat.add_zero, g4 c (by omega)]
          exact if_pos ⟨rfl, rfl, rfl⟩
        | succ m =>
          rw [List.length_cons] at hm
          have := g3 m (by omega)
          rw [show c + 1 + m = c + (m + 1) from by omega] at this
          rw [this]; rfl
      · rw [g4 x (by omega)]
        exact if_neg (by omega)
end MC
end PU13
