section PU5
/-! THE CLASS'S READERS, told of the world -/
def cver (q : Nat) (w : Wd) (j : Nat) (s : Int32) : Nat := if mine w j s then 6 * q + 1 else 6 * q
def hind (w : Wd) (j : Nat) (s : Int32) : Int32 := if oth w j s then 1 else if w (ver w j s + 3) = 0 then (if w (ver w j s + 5) ≤ w 3 then (if lesser w j s then 4 else if full w (grp w j).toNatClampNeg s then 5 else 0) else 3) else 2
section XR
variable {S : sSt} {t : Nat} {w : Wd} {π : List Nat} {ns np cm nl i : Nat}
theorem mine_cl {j : Nat} {s : Int32} : (decide (lkr w j ≠ -1) && decide (lkr w j = s)) = mine w j s := by
  unfold mine
  by_cases h : lkr w j = s
  · rw [h]
  · simp [h]
theorem see_or (hW : WF w ns np cm nl) {j : Nat} (hj : j < 24) (hl : lie w j = true) {s : Int32} (ho : oth w j s = false) : sees w j s = true := by
  rcases hW.job j hj with q | ⟨_, q1, q2, _⟩
  · exact absurd q (lie_n hl)
  · unfold sees
    rw [hl, ← mine_cl]
    unfold oth at ho
    by_cases c : lkr w j = -1
    · have h1 : w (21 + 47 * j + 1) = 1 := q2.resolve_right (fun h => h c)
      simp [isin, h1, lie_n hl]
    · simp only [ne_eq, c, not_false_eq_true, decide_true, Bool.true_and, decide_eq_false_iff_not, Decidable.not_not] at ho
      have hs : ¬ s = -1 := fun z => c (ho.trans z)
      simp [c, ho, hs]
theorem sto_is (hW : WF w ns np cm nl) {j : Nat} (hj : j < 24) (hl : lie w j = true) : (w (21 + 47 * j + 1) = 0) ↔ isin w j = false := by
  rcases hW.job j hj with q | ⟨_, q1, _⟩
  · exact absurd q (lie_n hl)
  · unfold isin
    rcases q1 with q1 | q1 <;> simp [q1, lie_n hl]
theorem x_num (hT : zT S t w π ns np nl) (hi : i < π.length) : S.1 21 (S.2 14 t i) 6 = num w (pl π i) := (hT.job i hi).1.1
theorem x_sto (hT : zT S t w π ns np nl) (hi : i < π.length) : S.1 21 (S.2 14 t i) 5 = w (21 + 47 * (pl π i) + 1) := (hT.job i hi).1.2.1
theorem x_lkr (hT : zT S t w π ns np nl) (hi : i < π.length) : S.1 21 (S.2 14 t i) 4 = lkr w (pl π i) := (hT.job i hi).1.2.2.1
theorem x_ver (hT : zT S t w π ns np nl) (hi : i < π.length) {s : Int32} (hs : sees w (pl π i) s = true) : VR S (S.2 14 t i) (cver (S.2 14 t i) w (pl π i) s) w (ver w (pl π i) s) := by
  obtain ⟨_, _, _, h4, h5⟩ := (hT.job i hi).1
  unfold cver ver
  cases c : mine w (pl π i) s
  · simp only [sees, Bool.and_eq_true, Bool.or_eq_true, c] at hs
    exact h4 (isin_1 (hs.2.resolve_left (by decide)))
  · unfold mine at c
    simp only [Bool.and_eq_true, decide_eq_true_eq] at c
    exact h5 (by rw [c.2]; exact c.1)
theorem x_grp (hT : zT S t w π ns np nl) (hO : zOrd w π) (hW : WF w ns np cm nl) (hi : i < π.length) : S.1 21 (S.2 14 t i) 7 = grp w (pl π i) := by
  obtain ⟨_, _, _, h4, h5⟩ := (hT.job i hi).1
  unfold grp anyv
  cases c : isin w (pl π i)
  · rcases hW.job _ (hO.at hi) with q | ⟨_, q1, q2, _⟩
    · exact absurd q (lie_n (hO.la hi))
    · have h1 := (sto_is hW (hO.at hi) (hO.la hi)).mpr c
      exact h5 (q2.resolve_left (by rw [h1]; decide)) 0 (by omega)
  · exact h4 (isin_1 c) 0 (by omega)
theorem x_isLockedBy (hT : zT S t w π ns np nl) (hi : i < π.length) {s : Int32} {k : Int32 → sSt → Prop} : F_X1_isLockedBy (S.2 14 t i) s S k ↔ k (b2i (mine w (pl π i) s)) S := by
  rw [F_X1_isLockedBy, x_lkr hT hi, cdi, cdn, ← mine_cl]
  by_cases h1 : lkr w (pl π i) = -1 <;> by_cases h2 : lkr w (pl π i) = s <;> simp [h1, h2, b2i] <;> simp_all
theorem x_isLockedByOther (hT : zT S t w π ns np nl) (hi : i < π.length) {s : Int32} {k : Int32 → sSt → Prop} : F_X1_isLockedByOther (S.2 14 t i) s S k ↔ k (b2i (oth w (pl π i) s)) S := by
  rw [F_X1_isLockedByOther, x_lkr hT hi, cdi, cdi]
  unfold oth
  by_cases h1 : lkr w (pl π i) = -1 <;> by_cases h2 : lkr w (pl π i) = s <;> simp [h1, h2, b2i] <;> simp_all
theorem x_isSeenBy (hT : zT S t w π ns np nl) (hO : zOrd w π) (hW : WF w ns np cm nl) (hi : i < π.length) {s : Int32} {k : Int32 → sSt → Prop} : F_X1_isSeenBy (S.2 14 t i) s S k ↔ k (b2i (sees w (pl π i) s)) S := by
  rw [F_X1_isSeenBy, x_lkr hT hi, x_sto hT hi, cdi, cdn, cdn, B_X1_isSeenBy_23]
  have h0 := sto_is hW (hO.at hi) (hO.la hi)
  unfold sees
  rw [hO.la hi, ← mine_cl]
  cases h3 : isin w (pl π i)
  · rw [if_pos (h0.mpr h3)]
    by_cases h1 : lkr w (pl π i) = -1 <;> by_cases h2 : lkr w (pl π i) = s <;> simp [h1, h2, b2i] <;> simp_all
  · rw [if_neg (fun h => by rw [h0.mp h] at h3; exact absurd h3 (by decide))]
    simp [b2i]
theorem x_seenBy (hT : zT S t w π ns np nl) (hi : i < π.length) {s : Int32} {k : Nat → sSt → Prop} : F_X1_seenBy (S.2 14 t i) s S k ↔ k (cver (S.2 14 t i) w (pl π i) s) S := by
  rw [F_X1_seenBy, x_lkr hT hi, cdi, cdn]
  unfold cver
  rw [← mine_cl]
  by_cases h1 : lkr w (pl π i) = -1 <;> by_cases h2 : lkr w (pl π i) = s <;> simp [h1, h2] <;> simp_all
theorem x_stt (hT : zT S t w π ns np nl) (hi : i < π.length) {s x : Int32} (hs : sees w (pl π i) s = true) : decide (S.1 22 (cver (S.2 14 t i) w (pl π i) s) 0 = x) = stt w (pl π i) s x := by
  unfold stt
  rw [hs, Bool.true_and, ← x_ver hT hi hs 3 (by omega)]
  rfl
theorem x_isLesserWaiting (hT : zT S t w π ns np nl) (hO : zOrd w π) (hW : WF w ns np cm nl) (hi : i < π.length) {s : Int32} {k : Int32 → sSt → Prop} : F_X0_isLesserWaiting t (S.2 14 t i) s S k ↔ k (b2i (lesser w (pl π i) s)) S := by
  have hlen := hO.len
  have e : lesser w (pl π i) s = (List.range' 0 π.length).any (fun o => decide (num w (pl π o) < num w (pl π i)) && (decide (grp w (pl π o) = grp w (pl π i)) && stt w (pl π o) s 0)) := by
    rw [any_pl π (fun o => decide (num w o < num w (pl π i)) && (decide (grp w o = grp w (pl π i)) && stt w o s 0)), hO.any]
    unfold lesser isof
    refine congrArg _ (funext fun o => ?_)
    unfold grp
    cases lie w o <;> cases decide (w (anyv w o) = w (anyv w (pl π i))) <;> cases decide (num w o < num w (pl π i)) <;> simp
  rw [F_X0_isLesserWaiting, e]
  suffices h : ∀ r i' m, i' + r = π.length → r < m → (B_X0_isLesserWaiting_2 m t (S.2 14 t i) s (nI i') S k ↔ k (b2i ((List.range' i' r).any (fun o => decide (num w (pl π o) < num w (pl π i)) && (decide (grp w (pl π o) = grp w (pl π i)) && stt w (pl π o) s 0)))) S) from h π.length 0 fuel (by omega) (fuel_gt (by omega))
  intro r
  induction r with
  | zero =>
    intro i' m h1 h2
    obtain ⟨m, rfl⟩ : ∃ q, m = q + 1 := ⟨m - 1, by omega⟩
    have : i' = π.length := by omega
    subst this
    simp only [B_X0_isLesserWaiting_2_s, Bb_X0_isLesserWaiting_2, hT.size]
    simp [nI_leI (show π.length < 2147483648 by omega) (show π.length < 2147483648 by omega), b2i]
  | succ r ih =>
    intro i' m h1 h2
    obtain ⟨m, rfl⟩ : ∃ q, m = q + 1 := ⟨m - 1, by omega⟩
    have hi' : i' < π.length := by omega
    have h : ¬ nI π.length ≤ nI i' := nI_ge hi' (by omega)
    simp only [B_X0_isLesserWaiting_2_s, Bb_X0_isLesserWaiting_2, hT.size, h, false_implies, true_and, not_false_eq_true, true_implies]
    rw [ix_n (by omega) (by omega), cdi, x_num hT hi', x_num hT hi]
    by_cases hlt : num w (pl π i') < num w (pl π i)
    · simp only [hlt, if_true, B_X0_isLesserWaiting_57, B_X0_isLesserWaiting_58, B_X0_isLesserWaiting_79, x_isSeenBy hT hO hW hi', x_seenBy hT hi', forall_eq, nI_1, ih (i' + 1) m (by omega) (by omega), x_grp hT hO hW hi', x_grp hT hO hW hi, b2i_0, List.range'_succ, List.any_cons, Bool.not_eq_false]
      generalize (List.range' (i' + 1) r).any (fun o => decide (num w (pl π o) < num w (pl π i)) && (decide (grp w (pl π o) = grp w (pl π i)) && stt w (pl π o) s 0)) = R
      cases hs : sees w (pl π i') s
      · have : stt w (pl π i') s 0 = false := by unfold stt; rw [hs]; rfl
        rw [this]
        by_cases c1 : grp w (pl π i') = grp w (pl π i) <;> simp [c1]
      · have := x_stt hT hi' (x := 0) hs
        rw [← this]
        by_cases c1 : grp w (pl π i') = grp w (pl π i) <;> by_cases c2 : S.1 22 (cver (S.2 14 t i') w (pl π i') s) 0 = 0 <;> cases R <;> simp [c1, c2, b2i]
    · rw [if_neg hlt]
      have : (List.range' i' (r + 1)).any (fun o => decide (num w (pl π o) < num w (pl π i)) && (decide (grp w (pl π o) = grp w (pl π i)) && stt w (pl π o) s 0)) = false := by
        rw [List.any_eq_false]
        intro o ho
        have ho := List.mem_range'_1.mp ho
        have : ¬ num w (pl π o) < num w (pl π i) := by
          intro q
          by_cases c : o = i'
          · rw [c] at q; exact hlt q
          · have h3 := hO.sorted (i := i') (i' := o) (by omega) (by omega)
            exact hlt (Int32.lt_trans h3 q)
        simp [this]
      rw [this]
      simp [b2i]
theorem x_isGroupFull (hT : zT S t w π ns np nl) (hO : zOrd w π) (hW : WF w ns np cm nl) {g : Nat} (hg : g < 6) {s : Int32} {k : Int32 → sSt → Prop} : F_X0_isGroupFull t (nI g) s S k ↔ k (b2i (full w g s)) S := by
  have hlen := hO.len
  have e : taken w (nI g) s = (List.range' 0 π.length).countP (fun o => decide (grp w (pl π o) = nI g) && (oth w (pl π o) s || stt w (pl π o) s 1)) := by
    rw [cnt_pl π (fun o => decide (grp w o = nI g) && (oth w o s || stt w o s 1)), hO.cnt]
    unfold taken isof grp
    refine List.countP_congr fun o _ => ?_
    rw [Bool.and_assoc]
  rw [F_X0_isGroupFull]
  unfold full
  rw [e]
  refine (lp_sum0 (L := fun m c i => B_X0_isGroupFull_5 m t (nI g) s c i S k) (K := fun c => k (b2i (!decide (c < w (15 + g)))) S) (fun o => decide (grp w (pl π o) = nI g) && (oth w (pl π o) s || stt w (pl π o) s 1)) (fuel_gt (by omega)) (fun m c => ?_) (fun m c i hi => ?_))
  · simp only [B_X0_isGroupFull_5_s, Bb_X0_isGroupFull_5, hT.size]
    rw [ix_n hg (by omega), hT.sca.2.2 g hg]
    by_cases h2 : c < w (15 + g) <;> simp [nI_leI (show π.length < 2147483648 by omega) (show π.length < 2147483648 by omega), h2, b2i]
  · have h : ¬ nI π.length ≤ nI i := nI_ge hi (by omega)
    simp only [B_X0_isGroupFull_5_s, Bb_X0_isGroupFull_5, hT.size, h, false_implies, true_and, not_false_eq_true, true_implies]
    rw [ix_n (by omega) (by omega)]
    simp only [B_X0_isGroupFull_69, B_X0_isGroupFull_50, B_X0_isGroupFull_45, x_isLockedByOther hT hi, x_seenBy hT hi, x_grp hT hO hW hi, forall_eq, nI_1, b2i_0, Bool.not_eq_false]
    cases c2 : oth w (pl π i) s
    · have := x_stt hT hi (x := 1) (see_or hW (hO.at hi) (hO.la hi) c2)
      rw [← this]
      by_cases c1 : grp w (pl π i) = nI g <;> by_cases c3 : S.1 22 (cver (S.2 14 t i) w (pl π i) s) 0 = 1 <;> simp [c1, c3, b2i]
    · by_cases c1 : grp w (pl π i) = nI g <;> simp [c1, b2i]
theorem x_hindrance (hT : zT S t w π ns np nl) (hO : zOrd w π) (hW : WF w ns np cm nl) (hi : i < π.length) {s : Int32} {k : Int32 → sSt → Prop} : F_X0_hindrance t (S.2 14 t i) s S k ↔ k (hind w (pl π i) s) S := by
  obtain ⟨⟨g, hg6, hg⟩, -⟩ := hW.vok (hO.at hi) (hO.la hi)
  have hgt : grp w (pl π i) = nI g := hg
  rw [F_X0_hindrance, x_seenBy hT hi, x_isLockedByOther hT hi]
  simp only [x_isLesserWaiting hT hO hW hi, x_grp hT hO hW hi, hgt, x_isGroupFull hT hO hW hg6, b2i_0, Bool.not_eq_false]
  unfold hind
  rw [hgt, nI_clamp (by omega)]
  have hm : S.1 13 t 10 = w 3 := hT.sca.1 3 (by omega)
  rw [hm]
  cases c2 : oth w (pl π i) s
  · have hv := x_ver hT hi (see_or hW (hO.at hi) (hO.la hi) c2)
    have h3 : S.1 22 (cver (S.2 14 t i) w (pl π i) s) 0 = _ := hv 3 (by omega)
    have h5 : S.1 22 (cver (S.2 14 t i) w (pl π i) s) 1 = _ := hv 5 (by omega)
    rw [h3, h5]
    by_cases d1 : w (ver w (pl π i) s + 3) = 0 <;> by_cases d2 : w (ver w (pl π i) s + 5) ≤ w 3 <;> cases d3 : lesser w (pl π i) s <;> cases d4 : full w g s <;> simp [d1, d2]
  · simp
end XR
end PU5
