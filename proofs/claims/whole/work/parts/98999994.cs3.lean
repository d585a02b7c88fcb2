section PU70
/-! CALL query: a session's query is another -/
def wqy (w : Wd) (s : Nat) (d : Nat → Int32) : Wd := fun x => if 1149 + 27 * s + 4 ≤ x ∧ x < 1149 + 27 * s + 27 then d (x - (1149 + 27 * s + 4)) else w x
section CS
variable {Sc Sc' Sm Sm' S S' : sSt} {l sp n t : Nat} {w : Wd} {π : List Nat} {ns np cm nl : Nat} {T : Nat → Int32} {L : Nat}
theorem wqy_o {s x : Nat} {d : Nat → Int32} (h : x < 1149 + 27 * s + 4 ∨ 1149 + 27 * s + 27 ≤ x) : wqy w s d x = w x := by unfold wqy; rw [if_neg (by omega)]
theorem wqy_i {s z : Nat} {d : Nat → Int32} (h : z < 23) : wqy w s d (1149 + 27 * s + 4 + z) = d z := by unfold wqy; rw [if_pos (by omega)]; congr 1; omega
theorem zB.qry (h : zB S t w π ns np cm nl) {s : Nat} (hs : s < ns) {d : Nat → Int32} (hS : ∀ a b, ow t a b → ¬ (9 ≤ a ∧ a ≤ 12) → ¬ (3 ≤ a ∧ a ≤ 8 ∧ b = 4 * t + s + 1) → S'.1 a b = S.1 a b) (h14 : S'.2 14 t = S.2 14 t) (hq : QR S' (4 * t + s + 1) d 0) (h0 : ∃ c, 1 ≤ c ∧ c ≤ 6 ∧ d 0 = nI c) (h1 : ∃ c, c ≤ 4 ∧ d 1 = nI c) (h2 : ∃ c, c ≤ 4 ∧ d 14 = nI c) : zB S' t (wqy w s d) π ns np cm nl := by
  obtain ⟨hT, hO, hW, hZ⟩ := h
  have hn := hW.hns.1
  have hnp := hW.hnp.1
  have o : ∀ x, (x < 1149 + 27 * s + 4 ∨ 1149 + 27 * s + 27 ≤ x) → wqy w s d x = w x := fun x hx => wqy_o hx
  refine ⟨⟨by rw [hS 13 t (by unfold ow; omega) (by omega) (by omega)]; exact hT.size, by unfold zRef; rw [h14]; exact hT.ref, hT.job.c hO hn h14 (fun i hi => hS _ _ (by have := hT.ref.1 i (by have := hO.len; omega); unfold ow; omega) (by omega) (by omega)) (fun i hi dd hd => hS _ _ (by have := hT.ref.1 i (by have := hO.len; omega); unfold ow; omega) (by omega) (by omega)) (fun x _ _ => o x (by omega)) (fun s' _ => o _ (by omega)) (fun x _ _ => o x (by omega)), hT.sca.c (fun f _ => by rw [hS 13 t (by unfold ow; omega) (by omega) (by omega)]) (hS _ _ (by unfold ow; omega) (by omega) (by omega)) (hS _ _ (by unfold ow; omega) (by omega) (by omega)) (fun x _ _ => o x (by omega)), fun s' hs' => ?_, hT.pln.c hnp (fun p _ => hS _ _ (by unfold ow; omega) (by omega) (by omega)) (fun x _ _ => o x (by omega)), hT.log.c hW.hnl.1 (hS _ _ (by unfold ow; omega) (by omega) (by omega)) (hS _ _ (by unfold ow; omega) (by omega) (by omega)) (fun x _ _ => o x (by omega))⟩, hO.c (fun j _ => o _ (by omega)), hW.sess hs (fun x hx => o x (by omega)) ?_, hZ.c hn (fun j _ => ⟨o _ (by omega), o _ (by omega)⟩) (fun s' _ => o _ (by omega)) (fun x _ _ => o x (by omega))⟩
  · obtain ⟨a1, a2, a3, a4, a5⟩ := hT.ses s' hs'
    have e24 : S'.1 24 (4 * t + s') = S.1 24 (4 * t + s') := hS 24 _ (by unfold ow; omega) (by omega) (by omega)
    refine ⟨by rw [e24, o _ (by omega)]; exact a1, by rw [e24, o _ (by omega)]; exact a2, by rw [e24, o _ (by omega)]; exact a3, by rw [e24, o _ (by omega)]; exact a4, ?_⟩
    by_cases c : s' = s
    · rw [c]
      obtain ⟨q1, q2, q3, q4, q5⟩ := hq
      rw [Nat.zero_add] at q2 q3
      have i0 : wqy w s d (1149 + 27 * s + 4) = d 0 := wqy_i (z := 0) (by omega)
      have i1 : wqy w s d (1149 + 27 * s + 4 + 1) = d 1 := wqy_i (by omega)
      have i14 : wqy w s d (1149 + 27 * s + 4 + 14) = d 14 := wqy_i (by omega)
      refine ⟨by rw [i0]; exact q1, by rw [i1]; exact q2, by rw [i14]; exact q3, fun k hk hl => ?_, fun k hk hl => ?_⟩
      · rw [i1] at hl
        have := q4 k hk (by rw [Nat.zero_add]; exact hl)
        rw [show 0 + 2 + 3 * k = 2 + 3 * k from by omega] at this
        rw [show 1149 + 27 * s + 4 + 2 + 3 * k = 1149 + 27 * s + 4 + (2 + 3 * k) from by omega, wqy_i (by omega), show 1149 + 27 * s + 4 + (2 + 3 * k) + 1 = 1149 + 27 * s + 4 + (2 + 3 * k + 1) from by omega, wqy_i (by omega), show 1149 + 27 * s + 4 + (2 + 3 * k) + 2 = 1149 + 27 * s + 4 + (2 + 3 * k + 2) from by omega, wqy_i (by omega)]
        exact this
      · rw [i14] at hl
        have := q5 k hk (by rw [Nat.zero_add]; exact hl)
        rw [show 0 + 15 + 2 * k = 15 + 2 * k from by omega] at this
        rw [show 1149 + 27 * s + 4 + 15 + 2 * k = 1149 + 27 * s + 4 + (15 + 2 * k) from by omega, wqy_i (by omega), show 1149 + 27 * s + 4 + (15 + 2 * k) + 1 = 1149 + 27 * s + 4 + (15 + 2 * k + 1) from by omega, wqy_i (by omega)]
        exact this
    · exact a5.c (fun k k3 k8 => hS k _ (by unfold ow; omega) (by omega) (by omega)) (fun x _ _ => o x (by omega))
  · obtain ⟨b1, b2, b3, b4, b5, b6⟩ := hW.ses s hs
    unfold SOK
    rw [o _ (by omega), o _ (by omega), o _ (by omega), show wqy w s d (1149 + 27 * s + 4) = d 0 from wqy_i (z := 0) (by omega), show 1149 + 27 * s + 5 = 1149 + 27 * s + 4 + 1 from by omega, wqy_i (by omega), show 1149 + 27 * s + 18 = 1149 + 27 * s + 4 + 14 from by omega, wqy_i (by omega)]
    exact ⟨b1, b2, b3, h0, h1, h2⟩
theorem m_q61 {s : Nat} (hs : s < 4) {k : Int32 → sSt → Prop} (hk : k (S.1 5 0 0) (sw S (wqy w s (S.1 5 0)))) : B_X12_query_61 fuel (nI s) 0 (sw S w) k := by
  suffices hh : ∀ r i m, i + r = 23 → r < m → B_X12_query_61 m (nI s) (nI i) (sw S (fun x => if 1149 + 27 * s + 4 ≤ x ∧ x < 1149 + 27 * s + 4 + i then S.1 5 0 (x - (1149 + 27 * s + 4)) else w x)) k by
    have := hh 23 0 fuel (by omega) (fuel_gt (by omega))
    rw [show (fun x => if 1149 + 27 * s + 4 ≤ x ∧ x < 1149 + 27 * s + 4 + 0 then S.1 5 0 (x - (1149 + 27 * s + 4)) else w x) = w from funext fun x => if_neg (by omega)] at this
    exact this
  intro r
  induction r with
  | zero =>
    intro i m hi hm
    obtain ⟨m, rfl⟩ : ∃ z, m = z + 1 := ⟨m - 1, by omega⟩
    have e : i = 23 := by omega
    subst e
    simp only [B_X12_query_61_s, Bb_X12_query_61]
    refine ⟨fun _ => ?_, fun q => absurd (show (23 : Int32) ≤ nI 23 from by decide) q⟩
    rw [sw_o (show ¬ ((5 : Nat) = 1 ∧ (0 : Nat) = 0) by omega)]
    exact hk
  | succ r ih =>
    intro i m hi hm
    obtain ⟨m, rfl⟩ : ∃ z, m = z + 1 := ⟨m - 1, by omega⟩
    simp only [B_X12_query_61_s, Bb_X12_query_61]
    refine ⟨fun q => absurd q (nI_ge (b := 23) (show i < 23 by omega) (by omega)), fun _ => ?_⟩
    rw [show (4 + nI i : Int32) = nI (4 + i) from nI_add 4 i, m_sessAt, ix_n (by omega) (by omega), ix_n (by omega) (by omega)]
    rintro S21 rfl x22 rfl
    rw [sw_i, sw_o (show ¬ ((5 : Nat) = 1 ∧ (0 : Nat) = 0) by omega), nI_1]
    have := ih (i + 1) m (by omega) (by omega)
    have e : va_up (fun x => if 1149 + 27 * s + 4 ≤ x ∧ x < 1149 + 27 * s + 4 + i then S.1 5 0 (x - (1149 + 27 * s + 4)) else w x) (1149 + 27 * s + (4 + i)) (S.1 5 0 i) = fun x => if 1149 + 27 * s + 4 ≤ x ∧ x < 1149 + 27 * s + 4 + (i + 1) then S.1 5 0 (x - (1149 + 27 * s + 4)) else w x := by
      funext x
      by_cases c : x = 1149 + 27 * s + (4 + i)
      · rw [c, up_eq, if_pos (by omega), show 1149 + 27 * s + (4 + i) - (1149 + 27 * s + 4) = i from by omega]
      · rw [up_ne c]
        by_cases d : 1149 + 27 * s + 4 ≤ x ∧ x < 1149 + 27 * s + 4 + i
        · rw [if_pos d, if_pos (by omega)]
        · rw [if_neg d, if_neg (by omega)]
    rw [e]
    exact this
theorem ow_q {k i s : Nat} (hl : (l = 1 ∧ sp = 2) ∨ (l = 2 ∧ sp = 1)) (hs : s < 4) (q1 : ¬ ow 1 k i) (q2 : ¬ ow 2 k i) : ¬ (3 ≤ k ∧ k ≤ 8 ∧ i = 4 * l + s + 1) := by
  rintro ⟨a, b, c⟩
  rcases hl with ⟨rfl, -⟩ | ⟨rfl, -⟩
  · exact q1 (by unfold ow; omega)
  · exact q2 (by unfold ow; omega)
theorem tl_ex2 {r1 r4 : Int32} {o : Int64} (h1 : S'.1 0 0 0 = r1) (h0 : r1 ≠ 0) (hI : Inv (n + 1) Sc S') : tl n r1 Sc o r4 S' := by
  rw [tl, F_X12_thrown]
  exact cs_end h1 (fun q => absurd q h0) hI
theorem pts_ok (hL : L ≤ 400) : ∀ r x l y, x ≤ L → pts T L r x = (some l, y) → (l.length ≤ r ∧ ∀ m, m < l.length → (tget l m).2.1 ≤ 3) ∧ y ≤ L := by
  intro r
  induction r with
  | zero => intro x l y hx h; rw [pts] at h; cases h
  | succ r ih =>
    intro x l y hx h
    rw [pts] at h
    cases e : ptm T L x with
    | mk o z =>
      rw [e] at h
      cases o with
      | none => cases h
      | some tt =>
        simp only [] at h
        have hz : z ≤ L ∧ tt.2.1 ≤ 3 := by
          have k1 := pcol_ok (T := T) hL hx
          unfold ptm at e
          cases e1 : pcol T L x with
          | mk o1 y1 =>
            rw [e1] at e k1
            cases o1 with
            | none => cases e
            | some c =>
              simp only [] at e
              have k2 := psgn_ok (T := T) hL k1.1
              cases e2 : psgn T L y1 with
              | mk o2 y2 =>
                rw [e2] at e k2
                cases o2 with
                | none => cases e
                | some sg =>
                  simp only [] at e
                  have k3 := pnum_ok (T := T) (lo := 0) (hi := 999) hL k2.1
                  cases e3 : pnum T L 0 999 y2 with
                  | mk o3 y3 =>
                    rw [e3] at e k3
                    cases o3 with
                    | none => cases e
                    | some v =>
                      simp only [] at e
                      cases e
                      exact ⟨k3.1, k2.2 sg rfl⟩
        by_cases q : wrd T L 25 z = true
        · rw [if_pos q] at h
          cases e4 : pts T L r (el T L (bl T L z)) with
          | mk o4 y4 =>
            rw [e4] at h
            cases o4 with
            | none => cases h
            | some l4 =>
              simp only [] at h
              cases h
              obtain ⟨⟨a, b⟩, c⟩ := ih _ l4 _ (el_bl_le hL hz.1) e4
              refine ⟨⟨by rw [List.length_cons]; omega, fun m hm => ?_⟩, c⟩
              rcases m with _ | m
              · exact hz.2
              · rw [List.length_cons] at hm
                rw [tget_s]; exact b m (by omega)
        · rw [if_neg q] at h
          cases h
          refine ⟨⟨by rw [List.length_singleton]; omega, fun m hm => ?_⟩, (bl_ok (T := T) hL hz.1).2.1⟩
          rw [List.length_singleton] at hm
          rw [show m = 0 from by omega]
          exact hz.2
theorem pks_ok (hL : L ≤ 400) : ∀ r x l y, x ≤ L → pks T L r x = (some l, y) → l.length ≤ r ∧ ∀ m, m < l.length → (kget l m).2 ≤ 1 := by
  intro r
  induction r with
  | zero => intro x l y hx h; rw [pks] at h; cases h
  | succ r ih =>
    intro x l y hx h
    rw [pks] at h
    cases e : pkey T L x with
    | mk o z =>
      rw [e] at h
      cases o with
      | none => cases h
      | some tt =>
        simp only [] at h
        have hz : z ≤ L ∧ tt.2 ≤ 1 := by
          have k1 := pcol_ok (T := T) hL hx
          unfold pkey at e
          cases e1 : pcol T L x with
          | mk o1 y1 =>
            rw [e1] at e k1
            cases o1 with
            | none => cases e
            | some c =>
              simp only [] at e
              by_cases q : wrd T L 28 y1 = true
              · rw [if_pos q] at e; cases e; exact ⟨el_bl_le hL k1.1, Nat.le_refl _⟩
              · rw [if_neg q] at e; cases e; exact ⟨(bl_ok (T := T) hL k1.1).2.1, Nat.zero_le _⟩
        by_cases q : isS T L (bl T L z) 44 = true
        · rw [if_pos q] at h
          cases e4 : pks T L r (bl T L z + 1) with
          | mk o4 y4 =>
            rw [e4] at h
            cases o4 with
            | none => cases h
            | some l4 =>
              simp only [] at h
              cases h
              obtain ⟨a, b⟩ := ih _ l4 _ (isS_lt q) e4
              refine ⟨by rw [List.length_cons]; omega, fun m hm => ?_⟩
              rcases m with _ | m
              · exact hz.2
              · rw [List.length_cons] at hm
                rw [kget_s]; exact b m (by omega)
        · rw [if_neg q] at h
          cases h
          refine ⟨by rw [List.length_singleton]; omega, fun m hm => ?_⟩
          rw [List.length_singleton] at hm
          rw [show m = 0 from by omega]
          exact hz.2
/-- a draft of what was read -/
def dqy (a : Nat) (tl : List (Nat × Nat × Nat)) (kl : List (Nat × Nat)) (z : Nat) : Int32 := if z = 0 then nI a else if z = 1 then nI tl.length else if z = 14 then nI kl.length else if z < 14 then (if (z - 2) % 3 = 0 then nI (tget tl ((z - 2) / 3)).1 else if (z - 2) % 3 = 1 then nI (tget tl ((z - 2) / 3)).2.1 else nI (tget tl ((z - 2) / 3)).2.2) else (if (z - 15) % 2 = 0 then nI (kget kl ((z - 15) / 2)).1 else nI (kget kl ((z - 15) / 2)).2)
theorem dqy_t {a : Nat} {tl : List (Nat × Nat × Nat)} {kl : List (Nat × Nat)} (h4 : tl.length ≤ 4) (h3 : ∀ m, m < tl.length → (tget tl m).2.1 ≤ 3) : TDm (dqy a tl kl) tl := by
  refine ⟨rfl, h4, fun m hm => ⟨?_, ?_, ?_, h3 m hm⟩⟩
  · unfold dqy
    rw [if_neg (by omega), if_neg (by omega), if_neg (by omega), if_pos (by omega), if_pos (by omega), show (2 + 3 * m - 2) / 3 = m from by omega]
  · unfold dqy
    rw [if_neg (by omega), if_neg (by omega), if_neg (by omega), if_pos (by omega), if_neg (by omega), if_pos (by omega), show (2 + 3 * m + 1 - 2) / 3 = m from by omega]
  · unfold dqy
    rw [if_neg (by omega), if_neg (by omega), if_neg (by omega), if_pos (by omega), if_neg (by omega), if_neg (by omega), show (2 + 3 * m + 2 - 2) / 3 = m from by omega]
theorem dqy_k {a : Nat} {tl : List (Nat × Nat × Nat)} {kl : List (Nat × Nat)} (h4 : kl.length ≤ 4) (h1 : ∀ m, m < kl.length → (kget kl m).2 ≤ 1) : KDm (dqy a tl kl) kl := by
  refine ⟨rfl, h4, fun m hm => ⟨?_, ?_, h1 m hm⟩⟩
  · unfold dqy
    rw [if_neg (by omega), if_neg (by omega), if_neg (by omega), if_neg (by omega), if_pos (by omega), show (15 + 2 * m - 15) / 2 = m from by omega]
  · unfold dqy
    rw [if_neg (by omega), if_neg (by omega), if_neg (by omega), if_neg (by omega), if_neg (by omega), show (15 + 2 * m + 1 - 15) / 2 = m from by omega]
theorem qr_tr {q : Nat} {d d' : Nat → Int32} {tl : List (Nat × Nat × Nat)} {kl : List (Nat × Nat)} (h : QR S q d 0) (t : TDm d tl) (k : KDm d kl) (t' : TDm d' tl) (k' : KDm d' kl) (e0 : d' 0 = d 0) : QR S q d' 0 := by
  obtain ⟨a1, a2, a3, a4, a5⟩ := h
  simp only [Nat.zero_add] at a1 a2 a3 a4 a5
  have e1 : d' 1 = d 1 := by rw [t.1, t'.1]
  have e14 : d' 14 = d 14 := by rw [k.1, k'.1]
  have tl4 := t.2.1
  have kl4 := k.2.1
  refine ⟨by rw [e0]; exact a1, by rw [Nat.zero_add, e1]; exact a2, by rw [Nat.zero_add, e14]; exact a3, fun m hm hl => ?_, fun m hm hl => ?_⟩
  · simp only [Nat.zero_add] at hl ⊢
    rw [e1] at hl
    have hm2 := hl
    rw [t.1, nI_ltI (by omega) (by omega)] at hm2
    obtain ⟨b1, b2, b3, -⟩ := t.2.2 m hm2
    obtain ⟨c1, c2, c3, -⟩ := t'.2.2 m hm2
    rw [c1, c2, c3, ← b1, ← b2, ← b3]
    exact a4 m hm hl
  · simp only [Nat.zero_add] at hl ⊢
    rw [e14] at hl
    have hm2 := hl
    rw [k.1, nI_ltI (by omega) (by omega)] at hm2
    obtain ⟨b1, b2, -⟩ := k.2.2 m hm2
    obtain ⟨c1, c2, -⟩ := k'.2.2 m hm2
    rw [c1, c2, ← b1, ← b2]
    exact a5 m hm hl
theorem pqy_ok (hL : L ≤ 400) {a u : Nat} {tl : List (Nat × Nat × Nat)} {kl : List (Nat × Nat)} (h : pqy T L = (some (a, tl, kl), u)) : (tl.length ≤ 4 ∧ ∀ m, m < tl.length → (tget tl m).2.1 ≤ 3) ∧ (kl.length ≤ 4 ∧ ∀ m, m < kl.length → (kget kl m).2 ≤ 1) := by
  unfold pqy at h
  have hy : (pbeh T L 18 1 6 0).2 ≤ L := by
    unfold pbeh
    split
    · exact (pnum_ok hL (el_bl_le hL (Nat.zero_le L))).1
    · exact (bl_ok (T := T) hL (Nat.zero_le L)).2.1
  cases e1 : pbeh T L 18 1 6 0 with
  | mk o1 y =>
    rw [e1] at h hy
    cases o1 with
    | none => cases h
    | some a' =>
      simp only [] at h
      have ht : ∀ l z, pq19 T L y = (some l, z) → (l.length ≤ 4 ∧ ∀ m, m < l.length → (tget l m).2.1 ≤ 3) ∧ z ≤ L := fun l z e => by
        unfold pq19 at e
        split at e
        · exact pts_ok hL 4 _ l z (el_bl_le hL hy) e
        · cases e; exact ⟨⟨Nat.zero_le _, fun m hm => absurd hm (Nat.not_lt_zero m)⟩, (bl_ok (T := T) hL hy).2.1⟩
      cases e2 : pq19 T L y with
      | mk o2 z =>
        rw [e2] at h
        cases o2 with
        | none => cases h
        | some l2 =>
          simp only [] at h
          have hk : ∀ l v, pqe T L z = (some l, v) → l.length ≤ 4 ∧ ∀ m, m < l.length → (kget l m).2 ≤ 1 := fun l v e => by
            unfold pqe at e
            cases e3 : pq26 T L z with
            | mk o3 v3 =>
              rw [e3] at e
              cases o3 with
              | none => cases e
              | some l3 =>
                simp only [] at e
                have : l3 = l := by
                  split at e <;> cases e
                  rfl
                rw [← this]
                unfold pq26 at e3
                split at e3
                · split at e3
                  · exact pks_ok hL 4 _ l3 v3 (el_bl_le hL (el_bl_le hL (ht l2 z e2).2)) e3
                  · cases e3
                · cases e3; exact ⟨Nat.zero_le _, fun m hm => absurd hm (Nat.not_lt_zero m)⟩
          cases e4 : pqe T L z with
          | mk o4 v =>
            rw [e4] at h
            cases o4 with
            | none => cases h
            | some l4 =>
              simp only [] at h
              cases h
              exact ⟨(ht tl z e2).1, hk kl _ e4⟩
theorem cs_3 (h : Inv n Sc Sm) {a1 a2 a3 a4 a5 : Int32} {o : Int64} : CS_3 a1 a2 a3 a4 a5 Sc Sm o (fun S1 S2 _ => Inv (n + 1) S1 S2) := by
  obtain ⟨l, sp, π, ns, np, cm, nl, hR, hB, hc⟩ := h
  obtain ⟨w, hw⟩ : ∃ w, w = Sm.1 1 0 := ⟨_, rfl⟩
  have hs : Sm = sw Sm w := by rw [hw, sw_s]
  rw [← hw] at hB
  have hW := hB.2.2.1
  have hn := hW.hns.1
  have hl12 := hR.1
  obtain ⟨t1, L, t2, t3, t4, t5⟩ := hR.2.2.2.2.2.2.2
  -- the tape of both
  obtain ⟨T, hTd⟩ : ∃ T : Nat → Int32, T = fun z => if z < L then Sc.1 2 0 z else 0 := ⟨_, rfl⟩
  have hTl : ∀ z, z < L → T z = Sc.1 2 0 z := fun z hz => by rw [hTd]; exact if_pos hz
  have hT : byt T := fun z => by
    rw [hTd]
    by_cases q : z < L
    · simp only [q, if_true]; exact (t5 z q).2
    · simp only [q, if_false]; rfl
  show FW_query a1 Sc o (fun r1 S2 o3 => F_X12_query a1 Sm (tl n r1 S2 o3))
  unfold FW_query F_X11_query
  rw [F_X8_useUp]
  rintro C1 e1 C2 e2
  have c2o : ∀ a b, ¬ (a = 1 ∧ b = 0) → C2.1 a b = Sc.1 a b := fun a b q => by rw [e2, e1, uI_other q, uI_other q]
  have c22 : C2.2 = Sc.2 := by rw [e2, e1]; rfl
  have c2f : ∀ f, f ≠ 1 → f ≠ 2 → C2.1 1 0 f = Sc.1 1 0 f := fun f q1 q2 => by rw [e2, e1, uI_nc (by omega), uI_nc (by omega)]
  have c21 : C2.1 1 0 1 = 0 := by rw [e2, uI_at]
  have c2L : C2.1 1 0 2 = nI L := by rw [e2, uI_nc (by omega), e1, uI_at]; exact t3
  have hB2 : zB C2 l w π ns np cm nl := hB.cells (fun k i q1 q2 => c2o k i (by unfold ow at q1; omega)) (by rw [c22])
  have hl2 : C2.2 0 0 4 = l := by rw [c22]; exact hR.2.1
  -- the model's first steps
  obtain ⟨M4, hM4⟩ : ∃ M4, M4 = uI (uI (uI (uI Sm 0 0 0 0) 0 0 11 (nI L)) 0 0 9 0) 0 0 10 0 := ⟨_, rfl⟩
  have m4o : ∀ a b, ¬ (a = 0 ∧ b = 0) → M4.1 a b = Sm.1 a b := fun a b q => by rw [hM4, uI_other q, uI_other q, uI_other q, uI_other q]
  have m4f : ∀ f, f ≠ 0 → f ≠ 9 → f ≠ 10 → f ≠ 11 → M4.1 0 0 f = Sm.1 0 0 f := fun f q1 q2 q3 q4 => by rw [hM4, uI_nc (by omega), uI_nc (by omega), uI_nc (by omega), uI_nc (by omega)]
  have m4w : M4 = sw M4 w := by
    have : M4.1 1 0 = w := by rw [m4o 1 0 (by omega), hw]
    rw [← this, sw_s]
  have m40 : M4.1 0 0 0 = 0 := by rw [hM4, uI_nc (by omega), uI_nc (by omega), uI_nc (by omega), uI_at]
  have m49 : M4.1 0 0 9 = 0 := by rw [hM4, uI_nc (by omega), uI_at]
  have m4r : RM M4 T L 0 := ⟨by rw [hM4, uI_at]; rfl, by rw [hM4, uI_nc (by omega), uI_nc (by omega), uI_at], fun z hz => by rw [m4o 6 0 (by omega), hTl z hz]; exact (t5 z hz).1.symm⟩
  have start : ∀ {kk : sSt → Prop}, kk (sw M4 w) → F_X12_uses Sm kk := by
    intro kk hk
    rw [F_X12_uses]
    rintro A1 rfl A2 e2 A3 e3 A4 e4
    rw [show (uI Sm 0 0 0 0).1 0 0 9 = nI L from by rw [uI_nc (by omega)]; exact t4] at e2
    have : A4 = M4 := by rw [e4, e3, e2, hM4]
    rw [this, m4w]; exact hk
  -- what holds in the end, nothing of the world being changed
  have inv0 : ∀ (Ce Me : sSt), ND C2 Ce → (∀ a b, ¬ (a = 0 ∧ b = 0) → ¬ (a = 5 ∧ b = 0) → Me.1 a b = M4.1 a b) → (∀ f, f ≠ 0 → f ≠ 10 → f ≠ 12 → f ≠ 13 → Me.1 0 0 f = M4.1 0 0 f) → Ce.1 1 0 4 = Me.1 0 0 13 → Inv (n + 1) Ce Me := by
    intro Ce Me nC oM fM e4
    have hz : zTap Ce Me := ⟨e4, 0, by omega, by rw [nC.2.1 1 (by omega) (by omega)]; exact c21, by rw [fM 9 (by omega) (by omega) (by omega) (by omega)]; exact m49, fun x hx => absurd hx (Nat.not_lt_zero x)⟩
    have h2 : Ce.2 = Sc.2 := nC.2.2.trans c22
    have hR' := hR.tap (n' := n + 1) (l' := l) (sp' := sp) (Sc' := Ce) (Sm' := Me) (Nat.le_succ n) hl12 hR.2.2.2.1 (by rw [h2]; exact hR.2.1) (by rw [h2]; exact hR.2.2.1) (by rw [h2]) (fun k i _ _ z1 _ z3 => by rw [nC.1 k i z1 z3, c2o k i z1]) (by rw [fM 7 (by omega) (by omega) (by omega) (by omega), m4f 7 (by omega) (by omega) (by omega) (by omega)]) (by rw [fM 1 (by omega) (by omega) (by omega) (by omega), m4f 1 (by omega) (by omega) (by omega) (by omega)]) (by rw [oM 2 0 (by omega) (by omega), m4o 2 0 (by omega)]) hz
    refine Inv.mk (π := π) (ns := ns) (np := np) (nl := nl) hR' ?_ (c_le hc)
    rw [oM 1 0 (by omega) (by omega), m4o 1 0 (by omega), ← hw]
    exact hB2.cells (fun k i q1 q2 => nC.1 k i (by unfold ow at q1; omega) (by unfold ow at q1; omega)) (by rw [nC.2.2])
  refine x_needSession hl2 hB2 (fun s hs' ha => ?_) (fun hno => ⟨fun _ => ?_, fun q => absurd rfl q⟩)
  · have st2 : ∀ {kk : Int32 → sSt → Prop}, F_X12_readQuery (sw M4 w) (fun r8 S9 => ((r8 = 0 → B_X12_query_37 a1 r8 (S9.1 0 0 12) S9 kk) ∧ (¬ r8 = 0 → B_X12_query_37 a1 r8 (-1) S9 kk))) → F_X12_query a1 Sm kk := by
      intro kk hk
      rw [F_X12_query]
      refine start ?_
      refine m_needS (fun q => absurd (hasS_of hW hs') (by rw [← ha, q]; decide)) (fun _ => hk)
    refine x_readFrom hT t2 c2L (fun z hz => by rw [c2o 2 0 (by omega)]; exact (hTl z hz).symm) (fun a tl kl u ep l1 l6 S6 n6 w6 c6 td kd => ⟨fun _ => ?_, fun q => absurd q (by decide)⟩) (fun y ep hy S6 n6 w6 => ⟨fun q => absurd rfl q, fun _ => ⟨fun z => absurd z (by decide), fun _ => ⟨fun _ => ?_, fun z => absurd rfl z⟩⟩⟩)
    · rw [ha, ix_n (by omega) (by omega)]
      have hl6 : S6.2 0 0 4 = l := by rw [n6.2.2]; exact hl2
      rw [hl6]
      obtain ⟨pk1, pk2⟩ := pqy_ok t2 ep
      have dt0 := dqy_t (a := a) (kl := kl) pk1.1 pk1.2
      have dk0 := dqy_k (a := a) (tl := tl) pk2.1 pk2.2
      have hq : QR S6 0 (dqy a tl kl) 0 := qr_of c6 rfl td dt0 kd dk0
      refine x_copyQuery (q := 4 * l + s + 1) (by omega) hq (fun S14 o14 r14 q14 => ?_)
      rw [show S14.1 3 0 5 = nI a from by rw [o14 3 0 (by omega)]; exact c6, ← ha]
      refine st2 ?_
      rw [m4w.symm]
      refine m_readQuery t2 m4r (fun a' tl' kl' u' ep' Me nM d0 dt dk => ?_) (fun y ep' Me nM e12 => ?_)
      · rw [ep] at ep'
        cases ep'
        refine ⟨fun q => absurd q (by decide), fun _ => ?_⟩
        have hQ := qr_tr q14 dt0 dk0 dt dk d0
        rw [B_X12_query_37]
        rintro S11 e11
        refine ⟨fun _ => ?_, fun q => absurd q (by decide)⟩
        rw [B_X12_query_50, m_throws0]
        refine ⟨fun _ => ?_, fun z => absurd rfl z⟩
        have w11 : S11.1 1 0 = w := by rw [e11, uI_other (by omega), nM.1 1 0 (by omega) (by omega), m4o 1 0 (by omega), hw]
        have d11 : S11.1 5 0 = Me.1 5 0 := by rw [e11, uI_other (by omega)]
        have s11 : S11 = sw S11 w := by rw [← w11, sw_s]
        rw [s11, ha]
        refine m_q61 (by omega) ?_
        rw [d11]
        have f11 : ∀ f, f ≠ 0 → f ≠ 10 → f ≠ 12 → f ≠ 13 → S11.1 0 0 f = M4.1 0 0 f := fun f q1 q2 q3 q4 => by rw [e11, uI_nc (by omega), nM.2 f q2 q3]
        have f110 : S11.1 0 0 0 = 0 := by rw [e11, uI_nc (by omega), nM.2 0 (by omega) (by omega)]; exact m40
        refine tl_ok f110 ?_ (by rw [d0])
        -- the end
        have hB14 : zB S14 l (wqy w s (Me.1 5 0)) π ns np cm nl := by
          refine hB2.qry hs' (fun x b q1 q2 q3 => ?_) (by rw [r14, n6.2.2]) hQ ⟨a, l1, l6, d0⟩ ⟨_, dt.2.1, dt.1⟩ ⟨_, dk.2.1, dk.1⟩
          rw [o14 x b q3, n6.1 x b (by unfold ow at q1; omega) (by unfold ow at q1; omega)]
        have h2 : S14.2 = Sc.2 := r14.trans (n6.2.2.trans c22)
        have hz : zTap S14 (sw S11 (wqy w s (Me.1 5 0))) := ⟨by rw [o14 1 0 (by omega), w6, sw_o (by omega), e11, uI_at], 0, by omega, by rw [o14 1 0 (by omega), n6.2.1 1 (by omega) (by omega)]; exact c21, by rw [sw_o (by omega), f11 9 (by omega) (by omega) (by omega) (by omega)]; exact m49, fun x hx => absurd hx (Nat.not_lt_zero x)⟩
        have hR' := hR.tap (n' := n + 1) (l' := l) (sp' := sp) (Sc' := S14) (Sm' := sw S11 (wqy w s (Me.1 5 0))) (Nat.le_succ n) hl12 hR.2.2.2.1 (by rw [h2]; exact hR.2.1) (by rw [h2]; exact hR.2.2.1) (by rw [h2]) (fun k i q1 q2 z1 _ z3 => by
          rw [o14 k i (ow_q hl12 (Nat.lt_of_lt_of_le hs' hn) q1 q2), n6.1 k i z1 z3, c2o k i z1]) (by rw [sw_o (by omega), f11 7 (by omega) (by omega) (by omega) (by omega), m4f 7 (by omega) (by omega) (by omega) (by omega)]) (by rw [sw_o (by omega), f11 1 (by omega) (by omega) (by omega) (by omega), m4f 1 (by omega) (by omega) (by omega) (by omega)]) (by rw [sw_o (by omega), e11, uI_other (by omega), nM.1 2 0 (by omega) (by omega), m4o 2 0 (by omega)]) hz
        exact Inv.mk (π := π) (ns := ns) (np := np) (nl := nl) hR' (by rw [sw_w]; exact hB14) (c_le hc)
      · rw [ep] at ep'; cases ep'
    · refine st2 ?_
      rw [m4w.symm]
      refine m_readQuery t2 m4r (fun a' tl' kl' u' ep' Me nM d0 dt dk => ?_) (fun y' ep' Me nM e12 => ?_)
      · rw [ep] at ep'; cases ep'
      · rw [ep] at ep'
        cases ep'
        refine ⟨fun _ => ?_, fun q => absurd rfl q⟩
        rw [B_X12_query_37]
        rintro S11 e11
        refine ⟨fun q => absurd rfl q, fun _ => ?_⟩
        rw [B_X12_query_50, m_throws1]
        refine ⟨fun z => absurd z (by decide), fun _ => ?_⟩
        have hI := inv0 S6 (uI S11 0 0 0 2) n6 (fun x b q1 q2 => by rw [uI_other q1, e11, uI_other q1, nM.1 x b q1 q2]) (fun f q1 q2 q3 q4 => by rw [uI_nc (by omega), e11, uI_nc (by omega), nM.2 f q2 q3]) (by rw [w6, uI_nc (by omega), e11, uI_at]; exact e12.symm)
        exact tl_ex2 uI_at (by decide) hI
  · show F_X12_query a1 Sm (tl n 1 C2 o)
    rw [F_X12_query]
    refine start ?_
    rw [m_noSession, sw_w, hno]
    refine (m_throws1 (c := 1)).mpr ⟨fun z => absurd z (by decide), fun _ => ?_⟩
    rw [sw_c (by omega)]
    have hI := inv0 C2 (uI M4 0 0 0 1) ND.rfl (fun x b q1 q2 => uI_other q1) (fun f q1 q2 q3 q4 => uI_nc (by omega)) (by rw [c2f 4 (by omega) (by omega), uI_nc (by omega), m4f 13 (by omega) (by omega) (by omega) (by omega)]; exact t1)
    have e : sw (uI M4 0 0 0 1) w = uI M4 0 0 0 1 := by rw [← sw_c (by omega), ← m4w]
    rw [e]
    exact tl_ex2 uI_at (by decide) hI
end CS
end PU70
