section PU14
theorem uI_at {S : sSt} {k i j : Nat} {v : Int32} : (uI S k i j v).1 k i j = v := if_pos ⟨rfl, rfl, rfl⟩
theorem uI_nc {S : sSt} {k i j k' i' j' : Nat} {v : Int32} (h : ¬ (k' = k ∧ i' = i ∧ j' = j)) : (uI S k i j v).1 k' i' j' = S.1 k' i' j' := if_neg h
theorem wcl_ok {ns np cm nl s tc kc : Nat} (hs : s < ns) : ∀ n w, WF w ns np cm nl → WF (wcl s tc kc n w).1 ns np cm nl ∧ (∀ j, j ∈ (wcl s tc kc n w).2 → j < 24 ∧ lie w j = true) ∧ (∀ j, j < 24 → num (wcl s tc kc n w).1 j = num w j) := by
  intro n
  induction n with
  | zero => intro w hW; exact ⟨hW, fun j hj => (by cases hj), fun _ _ => rfl⟩
  | succ n ih =>
    intro w hW
    cases hf : fsto w s tc kc with
    | none => rw [wcl_n hf]; exact ⟨hW, fun j hj => (by cases hj), fun _ _ => rfl⟩
    | some j =>
      obtain ⟨hj, hcn, ho, hst, hl⟩ := fsto_is hW hf
      have hn := hW.hns.1
      rw [wcl_s hf]
      obtain ⟨a, b, c⟩ := ih _ (hW.hold hj hs hl ho (stt_is hst))
      have e : ∀ x, x < 24 → num (whd w j s) x = num w x := fun x hx => by
        unfold num
        by_cases q : x = j
        · rw [q]; exact whd_out (by omega) (by omega) (by omega)
        · exact whd_out (by omega) (by omega) (by omega)
      refine ⟨a, fun x hx => ?_, fun x hx => (c x hx).trans (e x hx)⟩
      rcases List.mem_cons.mp hx with q | q
      · rw [q]; exact ⟨hj, hl⟩
      · have := b x q
        exact ⟨this.1, by unfold lie at *; rw [← e x this.1]; exact this.2⟩
section XC
variable {S S' : sSt} {t : Nat} {w w' : Wd} {π : List Nat} {ns np cm nl i : Nat}
/-- cells of Claims tell nothing of a table -/
theorem zB.cl (h : zB S t w π ns np cm nl) (h1 : ∀ a, ¬ (9 ≤ a ∧ a ≤ 12) → S'.1 a = S.1 a) (h2 : S'.2 = S.2) : zB S' t w π ns np cm nl := by
  obtain ⟨hT, hO, hW, hZ⟩ := h
  have hn := hW.hns.1
  refine ⟨⟨by rw [h1 13 (by omega)]; exact hT.size, by unfold zRef; rw [h2]; exact hT.ref, hT.job.c hO hn (by rw [h2]) (fun i _ => by rw [h1 21 (by omega)]) (fun i _ d _ => by rw [h1 22 (by omega)]) (fun _ _ _ => rfl) (fun _ _ => rfl) (fun _ _ _ => rfl), hT.sca.c (fun f _ => by rw [h1 13 (by omega)]) (by rw [h1 17 (by omega)]) (by rw [h1 18 (by omega)]) (fun _ _ _ => rfl), hT.ses.c hn (fun s _ => by rw [h1 24 (by omega)]) (fun s _ k _ _ => by rw [h1 k (by omega)]) (fun _ _ _ => rfl), hT.pln.c hW.hnp.1 (fun p _ => by rw [h1 25 (by omega)]) (fun _ _ _ => rfl), hT.log.c hW.hnl.1 (by rw [h1 19 (by omega)]) (by rw [h1 20 (by omega)]) (fun _ _ _ => rfl)⟩, hO, hW, hZ⟩
theorem x_claimAll (h : zB S t w π ns np cm nl) {s : Nat} (hs : s < ns) {tc kc : Nat} (ht4 : tc ≤ 4) (hk4 : kc ≤ 4) {all : Nat} (ha : all ≤ 6) (htc : w (1149 + 27 * s + 5) = nI tc) (hkc : w (1149 + 27 * s + 18) = nI kc) (hall : w (1149 + 27 * s + 4) = nI all) {k : sSt → Prop}
    (hk : ∀ S', zB S' t (wcl s tc kc all w).1 π ns np cm nl → KP t S S' → S'.2 = S.2 → S'.1 9 0 3 = nI (wcl s tc kc all w).2.length → (∀ m, m < (wcl s tc kc all w).2.length → S'.1 10 0 m = num w ((wcl s tc kc all w).2.getD m 0)) → (∀ x, x < 24 → S'.1 11 0 x = if x < π.length ∧ pl π x ∈ (wcl s tc kc all w).2 then nI s else S.1 11 0 x) → S'.1 12 = S.1 12 → k S') : F_X0_claimAll t (nI s) S k := by
  have hn := h.2.2.1.hns.1
  have hlen := h.2.1.len
  rw [F_X0_claimAll, ix_n (by omega) (by omega), forall_eq]
  have hq : S.1 3 (4 * t + s + 1) 5 = nI all := (h.1.ses s hs).2.2.2.2.1.trans hall
  rw [hq, if_neg (by rw [show (6 : Int32) = nI 6 from rfl, nI_ltI (by omega) (by omega)]; omega)]
  intro S6 e6
  have h6 : zB S6 t w π ns np cm nl := h.cl (fun a q => by rw [e6]; funext b; exact uI_other (by omega)) (by rw [e6]; rfl)
  have k6 : KP t S S6 := by rw [e6]; exact KP.rfl.i (by unfold ow; omega)
  have p6 : S6.1 9 0 3 = nI 0 := by rw [e6]; exact uI_at
  have q6 : S6.1 11 = S.1 11 ∧ S6.1 12 = S.1 12 ∧ S6.2 = S.2 := by rw [e6]; exact ⟨funext fun b => uI_other (by omega), funext fun b => uI_other (by omega), rfl⟩
  suffices hh : ∀ r c m (S1 : sSt) (w : Wd) (k : sSt → Prop), c + r = all → r < m → zB S1 t w π ns np cm nl → S1.1 9 0 3 = nI c → w (1149 + 27 * s + 5) = nI tc → w (1149 + 27 * s + 18) = nI kc → (∀ S', zB S' t (wcl s tc kc r w).1 π ns np cm nl → KP t S1 S' → S'.2 = S1.2 → S'.1 9 0 3 = nI (c + (wcl s tc kc r w).2.length) → (∀ m, m < (wcl s tc kc r w).2.length → S'.1 10 0 (c + m) = num w ((wcl s tc kc r w).2.getD m 0)) → (∀ m, m < c → S'.1 10 0 m = S1.1 10 0 m) → (∀ x, x < 24 → S'.1 11 0 x = if x < π.length ∧ pl π x ∈ (wcl s tc kc r w).2 then nI s else S1.1 11 0 x) → S'.1 12 = S1.1 12 → k S') → B_X0_claimAll_26 m t (nI s) (nI all) (nI c) S1 k by
    refine hh all 0 fuel S6 w k (by omega) (fuel_gt (by omega)) h6 p6 htc hkc (fun S' g1 g2 g3 g4 g5 g6 g7 g8 => hk S' g1 (k6.tr g2) (g3.trans q6.2.2) (by rw [g4, Nat.zero_add]) (fun m hm => by have := g5 m hm; rw [Nat.zero_add] at this; exact this) (fun x hx => by rw [g7 x hx, q6.1]) (g8.trans q6.2.1))
  clear hk hall hq e6 h6 k6 p6 q6 htc hkc h
  intro r
  induction r with
  | zero =>
    intro c m S1 w k hc hm h hp htc hkc hk
    obtain ⟨m, rfl⟩ : ∃ q, m = q + 1 := ⟨m - 1, by omega⟩
    have e : c = all := by omega
    simp only [B_X0_claimAll_26_s, Bb_X0_claimAll_26]
    rw [← e]
    refine ⟨fun _ => hk S1 h KP.rfl rfl hp (fun m hm => absurd hm (Nat.not_lt_zero m)) (fun _ _ => rfl) (fun x _ => by rw [if_neg (fun q => by cases q.2)]) rfl, fun q => absurd (nI_le (Nat.le_refl c) (by omega)) q⟩
  | succ r ih =>
    intro c m S1 w k hc hm h hp htc hkc hk
    obtain ⟨m, rfl⟩ : ∃ q, m = q + 1 := ⟨m - 1, by omega⟩
    have hlt : ¬ nI all ≤ nI c := nI_ge (by omega) (by omega)
    simp only [B_X0_claimAll_26_s, Bb_X0_claimAll_26, hlt, false_implies, not_false_eq_true, true_implies, true_and]
    refine x_placeToClaim h.1 h.2.1 h.2.2.1 hs ht4 htc hk4 hkc (fun hf => ?_) (fun i hi hf => ?_)
    · rw [show wcl s tc kc (r + 1) w = (w, []) from wcl_n hf] at hk
      refine ⟨fun q => absurd rfl q, fun _ => hk S1 h KP.rfl rfl hp (fun m hm => absurd hm (Nat.not_lt_zero m)) (fun _ _ => rfl) (fun x _ => by rw [if_neg (fun q => by cases q.2)]) rfl⟩
    · obtain ⟨hj, hcn, ho, hst, hl⟩ := fsto_is h.2.2.1 hf
      rw [show wcl s tc kc (r + 1) w = _ from wcl_s hf] at hk
      simp only [ni_m1 (show i < 2147483648 by omega), false_implies, not_false_eq_true, true_implies, and_true]
      refine x_hold h hi hs ho hst (fun S12 h12 => ?_)
      obtain ⟨b12, ⟨k12, e12, c12⟩, -, -⟩ := h12
      rw [ix_n (by omega) (by omega), ix_n (by omega) (by omega)]
      intro S17 e17 S18 e18 S19 e19
      have en : S12.1 21 (S12.2 14 t i) 6 = num w (pl π i) := (x_num b12.1 hi).trans (by unfold num; exact whd_out (by omega) (by omega) (by omega))
      rw [en] at e17
      have b19 : zB S19 t (whd w (pl π i) s) π ns np cm nl := b12.cl (fun a q => by rw [e19, e18, e17]; funext b; rw [uI_other (by omega), uI_other (by omega), uI_other (by omega)]) (by rw [e19, e18, e17]; rfl)
      have k19 : KP t S1 S19 := by rw [e19, e18, e17]; exact ((k12.i (by unfold ow; omega)).i (by unfold ow; omega)).i (by unfold ow; omega)
      have p19 : S19.1 9 0 3 = nI (c + 1) := by
        rw [e19, show (uI S18 9 0 3 (S18.1 9 0 3 + 1)).1 9 0 3 = S18.1 9 0 3 + 1 from uI_at, e18, show (uI S17 11 0 i (nI s)).1 9 = S17.1 9 from funext fun b => uI_other (by omega), e17, show (uI S12 10 0 c (num w (pl π i))).1 9 = S12.1 9 from funext fun b => uI_other (by omega), c12 9 (by omega) (by omega), hp, nI_1]
      have t19 : ∀ x, S19.1 11 0 x = if x = i then nI s else S1.1 11 0 x := by
        intro x
        rw [e19, show (uI S18 9 0 3 (S18.1 9 0 3 + 1)).1 11 = S18.1 11 from funext fun b => uI_other (by omega), e18]
        have : S17.1 11 = S1.1 11 := by rw [e17, show (uI S12 10 0 c (num w (pl π i))).1 11 = S12.1 11 from funext fun b => uI_other (by omega), c12 11 (by omega) (by omega)]
        by_cases q : x = i
        · rw [if_pos q, q]; exact uI_at
        · rw [if_neg q, ← this]; exact uI_nc (fun z => q z.2.2)
      have d19 : ∀ x, S19.1 10 0 x = if x = c then num w (pl π i) else S1.1 10 0 x := by
        intro x
        rw [e19, show (uI S18 9 0 3 (S18.1 9 0 3 + 1)).1 10 = S18.1 10 from funext fun b => uI_other (by omega), e18, show (uI S17 11 0 i (nI s)).1 10 = S17.1 10 from funext fun b => uI_other (by omega), e17]
        have : S12.1 10 = S1.1 10 := c12 10 (by omega) (by omega)
        by_cases q : x = c
        · rw [if_pos q, q]; exact uI_at
        · rw [if_neg q, ← this]; exact uI_nc (fun z => q z.2.2)
      have o19 : S19.1 12 = S1.1 12 := by
        rw [e19, show (uI S18 9 0 3 (S18.1 9 0 3 + 1)).1 12 = S18.1 12 from funext fun b => uI_other (by omega), e18, show (uI S17 11 0 i (nI s)).1 12 = S17.1 12 from funext fun b => uI_other (by omega), e17, show (uI S12 10 0 c (num w (pl π i))).1 12 = S12.1 12 from funext fun b => uI_other (by omega), c12 12 (by omega) (by omega)]
      have r19 : S19.2 = S1.2 := by rw [e19, e18, e17]; exact e12
      have htc' : whd w (pl π i) s (1149 + 27 * s + 5) = nI tc := by rw [whd_out (by omega) (by omega) (by omega)]; exact htc
      have hkc' : whd w (pl π i) s (1149 + 27 * s + 18) = nI kc := by rw [whd_out (by omega) (by omega) (by omega)]; exact hkc
      rintro x rfl
      rw [nI_1]
      refine ih (c + 1) m S19 _ k (by omega) (by omega) b19 p19 htc' hkc' (fun S' g1 g2 g3 g4 g5 g6 g7 g8 => hk S' g1 (k19.tr g2) (g3.trans r19) ?_ (fun m hm => ?_) (fun m hm => ?_) (fun x hx => ?_) (g8.trans o19))
      · rw [g4, List.length_cons]; congr 1; omega
      · cases m with
        | zero => rw [Nat.add_zero, g6 c (by omega), d19, if_pos rfl]; rfl
        | succ m =>
          rw [List.length_cons] at hm
          have := g5 m (by omega)
          rw [show c + 1 + m = c + (m + 1) from by omega] at this
          rw [this]
          have hmem : (wcl s tc kc r (whd w (pl π i) s)).2.getD m 0 ∈ (wcl s tc kc r (whd w (pl π i) s)).2 := by
            rw [List.getD_eq_getElem?_getD, List.getElem?_eq_getElem (by omega)]; exact List.getElem_mem _
          have hlt := ((wcl_ok hs r _ b12.2.2.1).2.1 _ hmem).1
          rw [show (pl π i :: (wcl s tc kc r (whd w (pl π i) s)).2).getD (m + 1) 0 = (wcl s tc kc r (whd w (pl π i) s)).2.getD m 0 from rfl]
          generalize (wcl s tc kc r (whd w (pl π i) s)).2.getD m 0 = y at hlt
          unfold num
          exact whd_out (by have := h.2.1.at hi; omega) (by omega) (by omega)
      · rw [g6 m (by omega), d19, if_neg (by omega)]
      · rw [g7 x hx, t19]
        by_cases q : x = i
        · rw [q, if_pos rfl, if_pos (show i < π.length ∧ pl π i ∈ (pl π i :: (wcl s tc kc r (whd w (pl π i) s)).2) from ⟨hi, List.mem_cons_self⟩)]
          split <;> rfl
        · rw [if_neg q]
          by_cases q2 : x < π.length ∧ pl π x ∈ (wcl s tc kc r (whd w (pl π i) s)).2
          · rw [if_pos q2, if_pos ⟨q2.1, List.mem_cons_of_mem _ q2.2⟩]
          · rw [if_neg q2, if_neg (fun z => by
              rcases List.mem_cons.mp z.2 with z2 | z2
              · exact q (h.2.1.inj z.1 hi z2)
              · exact q2 ⟨z.1, z2⟩)]
end XC
end PU14
