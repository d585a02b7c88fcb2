section PU7
/-! THE CLASS: columns, terms, keys, the place to claim -/
section XP
variable {S : sSt} {t : Nat} {w : Wd} {π : List Nat} {ns np cm nl i : Nat}
theorem turn_eq : ∀ g, g < 6 → ∀ l, l < 6 → fmod6 ((nI g - nI l) - 1) = ((nI g + 6 - 1) - nI l) - ((nI g + 6 - 1) - nI l) / 6 * 6 := by decide +kernel
theorem x_valueOf (hT : zT S t w π ns np nl) (hO : zOrd w π) (hW : WF w ns np cm nl) (hi : i < π.length) {s : Nat} (hs : s < ns) (hse : sees w (pl π i) (nI s) = true) {c : Int32} {k : Int32 → sSt → Prop} : F_X3_valueOf c t (S.2 14 t i) (nI s) S k ↔ k (col w (pl π i) s c) S := by
  have hns := hW.hns.1
  have hv := x_ver hT hi hse
  have hm : S.1 13 t 10 = w 3 := hT.sca.1 3 (by omega)
  have h0 : S.1 21 (S.2 14 t i) 7 = _ := hv 0 (by omega)
  have h1 : S.1 21 (S.2 14 t i) 8 = _ := hv 1 (by omega)
  have h2 : S.1 21 (S.2 14 t i) 9 = _ := hv 2 (by omega)
  have h4 : S.1 21 (S.2 14 t i) 10 = _ := hv 4 (by omega)
  have h5 : S.1 22 (cver (S.2 14 t i) w (pl π i) (nI s)) 1 = _ := hv 5 (by omega)
  have h6 : S.1 22 (cver (S.2 14 t i) w (pl π i) (nI s)) 2 = _ := hv 6 (by omega)
  have hl : S.1 24 (4 * t + s) 2 = w (1149 + 27 * s + 1) := (hT.ses s hs).2.1
  obtain ⟨-, -, ⟨l, hl6, hl'⟩, -⟩ := hW.ses s hs
  obtain ⟨⟨g, hg6, hg⟩, -⟩ := hW.vver (hO.at hi) hse
  rw [F_X3_valueOf, x_seenBy hT hi]
  simp only [cdi]
  rw [ix_n (show s < 4 by omega) (by omega), x_num hT hi, h0, h1, h2, h4, h5, h6, hm, hl]
  unfold col
  rw [Nat.add_zero, hl', hg, turn_eq g hg6 l hl6]
  repeat' split
  all_goals rfl
theorem x_isSo {v c x n : Int32} (h : sgc c x) {k : Int32 → sSt → Prop} : F_X3_isSo v c n S k ↔ k (b2i (sgn x v n)) S := by
  rw [F_X3_isSo]
  unfold sgn
  rcases h with ⟨rfl, rfl⟩ | ⟨rfl, rfl⟩ | ⟨rfl, rfl⟩ | ⟨rfl, rfl⟩
  · by_cases c1 : v = n <;> simp [c1, b2i]
  · by_cases c1 : v = n <;> simp [c1, b2i]
  · by_cases c1 : n ≤ v <;> simp [c1, b2i]
  · by_cases c1 : v ≤ n <;> simp [c1, b2i]
theorem x_fits (hT : zT S t w π ns np nl) (hO : zOrd w π) (hW : WF w ns np cm nl) (hi : i < π.length) {s : Nat} (hs : s < ns) (hse : sees w (pl π i) (nI s) = true) {tc : Nat} (ht4 : tc ≤ 4) (htc : w (1149 + 27 * s + 5) = nI tc) {k : Int32 → sSt → Prop} : F_X3_fits (4 * t + s + 1) t (S.2 14 t i) (nI s) S k ↔ k (b2i (asked w (pl π i) s tc)) S := by
  obtain ⟨_, _, _, _, q1, q2, q3, q4, q5⟩ := hT.ses s hs
  have hq : S.1 3 (4 * t + s + 1) 6 = nI tc := q2.trans htc
  rw [F_X3_fits]
  unfold asked
  suffices h : ∀ r i' m, i' + r = tc → r < m → (B_X3_fits_3 m (4 * t + s + 1) t (S.2 14 t i) (nI s) (nI i') S k ↔ k (b2i ((List.range' i' r).all (asked1 w (pl π i) s))) S) from h tc 0 fuel (by omega) (fuel_gt (by omega))
  intro r
  induction r with
  | zero =>
    intro i' m h1 h2
    obtain ⟨m, rfl⟩ : ∃ q, m = q + 1 := ⟨m - 1, by omega⟩
    have : i' = tc := by omega
    subst this
    simp only [B_X3_fits_3_s, Bb_X3_fits_3, hq]
    simp [nI_leI (show i' < 2147483648 by omega) (show i' < 2147483648 by omega), b2i]
  | succ r ih =>
    intro i' m h1 h2
    obtain ⟨m, rfl⟩ : ∃ q, m = q + 1 := ⟨m - 1, by omega⟩
    have hi' : i' < tc := by omega
    have h : ¬ nI tc ≤ nI i' := nI_ge hi' (by omega)
    have h4 : ¬ (4 : Int32) ≤ nI i' := nI_ge (b := 4) (by omega) (by omega)
    have hlt : nI i' < w (1149 + 27 * s + 4 + 1) := by rw [show 1149 + 27 * s + 4 + 1 = 1149 + 27 * s + 5 from by omega, htc]; exact nI_lt hi' (by omega)
    obtain ⟨r1, r2, r3⟩ := q4 i' (by omega) hlt
    simp only [B_X3_fits_3_s, Bb_X3_fits_3, hq, h, h4, false_implies, true_and, not_false_eq_true, true_implies]
    rw [ix_n (by omega) (by omega), x_valueOf hT hO hW hi hs hse, x_isSo r2, r1, r3]
    simp only [forall_eq, nI_1, ih (i' + 1) m (by omega) (by omega), b2i_0, Bool.not_eq_false, List.range'_succ, List.all_cons]
    rw [show 1149 + 27 * s + 4 + 2 + 3 * i' + 1 = 1149 + 27 * s + (6 + 3 * i') + 1 from by omega, show 1149 + 27 * s + 4 + 2 + 3 * i' + 2 = 1149 + 27 * s + (6 + 3 * i') + 2 from by omega, show 1149 + 27 * s + 4 + 2 + 3 * i' = 1149 + 27 * s + (6 + 3 * i') from by omega]
    rw [show sgn (w (1149 + 27 * s + (6 + 3 * i') + 1)) (col w (pl π i) s (w (1149 + 27 * s + (6 + 3 * i')))) (w (1149 + 27 * s + (6 + 3 * i') + 2)) = asked1 w (pl π i) s i' from rfl]
    cases asked1 w (pl π i) s i'
    · simp [b2i]
    · simp only [Bool.true_and]; simp
theorem x_putsAhead (hT : zT S t w π ns np nl) (hO : zOrd w π) (hW : WF w ns np cm nl) {a b : Nat} (ha : a < π.length) (hb : b < π.length) {s : Nat} (hs : s < ns) (hsa : sees w (pl π a) (nI s) = true) (hsb : sees w (pl π b) (nI s) = true) {kc : Nat} (ht4 : kc ≤ 4) (htc : w (1149 + 27 * s + 18) = nI kc) {k : Int32 → sSt → Prop} : F_X3_putsAhead (4 * t + s + 1) t (S.2 14 t a) (S.2 14 t b) (nI s) S k ↔ k (b2i (ahk w (pl π a) (pl π b) s 0 kc)) S := by
  obtain ⟨_, _, _, _, q1, q2, q3, q4, q5⟩ := hT.ses s hs
  have hq : S.1 3 (4 * t + s + 1) 7 = nI kc := q3.trans htc
  rw [F_X3_putsAhead]
  suffices h : ∀ r i' m, i' + r = kc → r < m → (B_X3_putsAhead_3 m (4 * t + s + 1) t (S.2 14 t a) (S.2 14 t b) (nI s) (nI i') S k ↔ k (b2i (ahk w (pl π a) (pl π b) s i' r)) S) from h kc 0 fuel (by omega) (fuel_gt (by omega))
  intro r
  induction r with
  | zero =>
    intro i' m h1 h2
    obtain ⟨m, rfl⟩ : ∃ q, m = q + 1 := ⟨m - 1, by omega⟩
    have : i' = kc := by omega
    subst this
    simp only [B_X3_putsAhead_3_s, Bb_X3_putsAhead_3, hq, ahk]
    simp [nI_leI (show i' < 2147483648 by omega) (show i' < 2147483648 by omega), b2i]
  | succ r ih =>
    intro i' m h1 h2
    obtain ⟨m, rfl⟩ : ∃ q, m = q + 1 := ⟨m - 1, by omega⟩
    have hi' : i' < kc := by omega
    have h : ¬ nI kc ≤ nI i' := nI_ge hi' (by omega)
    have h4 : ¬ (4 : Int32) ≤ nI i' := nI_ge (b := 4) (by omega) (by omega)
    have hlt : nI i' < w (1149 + 27 * s + 4 + 14) := by rw [show 1149 + 27 * s + 4 + 14 = 1149 + 27 * s + 18 from by omega, htc]; exact nI_lt hi' (by omega)
    obtain ⟨r1, r2, r3⟩ := q5 i' (by omega) hlt
    simp only [B_X3_putsAhead_3_s, Bb_X3_putsAhead_3, hq, h, h4, false_implies, true_and, not_false_eq_true, true_implies]
    rw [ix_n (by omega) (by omega), x_valueOf hT hO hW ha hs hsa, x_valueOf hT hO hW hb hs hsb, r1, r2]
    simp only [forall_eq, nI_1, ih (i' + 1) m (by omega) (by omega), ahk]
    rw [show 1149 + 27 * s + 4 + 15 + 2 * i' + 1 = 1149 + 27 * s + (19 + 2 * i') + 1 from by omega, show 1149 + 27 * s + 4 + 15 + 2 * i' = 1149 + 27 * s + (19 + 2 * i') from by omega]
    generalize col w (pl π a) s (w (1149 + 27 * s + (19 + 2 * i'))) = x
    generalize col w (pl π b) s (w (1149 + 27 * s + (19 + 2 * i'))) = y
    by_cases c1 : x = y
    · simp [c1]
    · by_cases c2 : w (1149 + 27 * s + (19 + 2 * i') + 1) = 0
      · by_cases c3 : y ≤ x <;> simp [c1, c2, c3, b2i]
      · by_cases c3 : x ≤ y <;> simp [c1, c2, c3, b2i]
theorem hind0 {j : Nat} {s : Nat} (hse : sees w j (nI s) = true) : (hind w j (nI s) = 0) ↔ mayc w j s = true := by
  unfold hind mayc stt
  rw [hse]
  cases oth w j (nI s)
  · by_cases d1 : w (ver w j (nI s) + 3) = 0 <;> by_cases d2 : w (ver w j (nI s) + 5) ≤ w 3 <;> cases d3 : lesser w j (nI s) <;> cases d4 : full w (grp w j).toNatClampNeg (nI s) <;> simp [d1, d2, ← Int32.not_lt] <;> simp_all [← Int32.not_lt]
  · simp
/-- the place to claim is that of the model's first -/
theorem x_placeToClaim (hT : zT S t w π ns np nl) (hO : zOrd w π) (hW : WF w ns np cm nl) {s : Nat} (hs : s < ns) {tc kc : Nat} (ht4 : tc ≤ 4) (htc : w (1149 + 27 * s + 5) = nI tc) (hk4 : kc ≤ 4) (hkc : w (1149 + 27 * s + 18) = nI kc) {k : Int32 → sSt → Prop} (h0 : fsto w s tc kc = none → k (-1) S) (h1 : ∀ i, i < π.length → fsto w s tc kc = some (pl π i) → k (nI i) S) : F_X0_placeToClaim t (nI s) S k := by
  have hlen := hO.len
  have hns := hW.hns.1
  rw [F_X0_placeToClaim, ix_n (show s < 4 by omega) (by omega)]
  -- the best place so far
  have key : ∀ r i m (o : Option Nat), i + r = π.length → r < m → (match o with | none => ∀ c, c < i → cnd w s tc (pl π c) = false | some b => b < i ∧ cnd w s tc (pl π b) = true ∧ ∀ c, c < i → cnd w s tc (pl π c) = true → c ≠ b → ahd w (pl π b) (pl π c) s 0 kc = true) → B_X0_placeToClaim_15 m t (nI s) (4 * t + s + 1) (oI o) (nI i) S k := by
    intro r
    induction r with
    | zero =>
      intro i m o hi hm ho
      obtain ⟨m, rfl⟩ : ∃ q, m = q + 1 := ⟨m - 1, by omega⟩
      have : i = π.length := by omega
      subst this
      simp only [B_X0_placeToClaim_15_s, Bb_X0_placeToClaim_15, hT.size]
      simp only [nI_leI (show π.length < 2147483648 by omega) (show π.length < 2147483648 by omega), Nat.le_refl, true_implies, not_true_eq_false, false_implies, and_true]
      have hB := fsto_Bst hW s tc kc
      cases o with
      | none =>
        refine h0 ?_
        refine Bst.one (P := cnd w s tc) (A := fun a b => ahd w a b s 0 kc) (n := 24) (fun a b _ _ _ _ => ahd_asy) hB ?_
        intro j hj
        cases hc : cnd w s tc j
        · rfl
        · obtain ⟨c, hc1, hc2⟩ := hO.pos hj (sees_lie (cnd_sees hc))
          have := ho c hc1
          rw [hc2, hc] at this; exact absurd this (by decide)
      | some b =>
        refine h1 b ho.1 ?_
        refine Bst.one (P := cnd w s tc) (A := fun a b => ahd w a b s 0 kc) (n := 24) (fun a b _ _ _ _ => ahd_asy) hB ?_
        refine ⟨hO.at ho.1, ho.2.1, fun j hj hc hne => ?_⟩
        obtain ⟨c, hc1, hc2⟩ := hO.pos hj (sees_lie (cnd_sees hc))
        rw [← hc2]
        exact ho.2.2 c hc1 (by rw [hc2]; exact hc) (fun e => hne (by rw [← hc2, e]))
    | succ r ih =>
      intro i m o hi hm ho
      obtain ⟨m, rfl⟩ : ∃ q, m = q + 1 := ⟨m - 1, by omega⟩
      have hi' : i < π.length := by omega
      have h : ¬ nI π.length ≤ nI i := nI_ge hi' (by omega)
      have skip : cnd w s tc (pl π i) = false → B_X0_placeToClaim_15 m t (nI s) (4 * t + s + 1) (oI o) (nI (i + 1)) S k := by
        intro hc
        refine ih (i + 1) m o (by omega) (by omega) ?_
        cases o with
        | none => intro c hc1; by_cases e : c = i
                  · rw [e]; exact hc
                  · exact ho c (by omega)
        | some b => exact ⟨by have := ho.1; omega, ho.2.1, fun c hc1 hc2 hne => ho.2.2 c (by
            by_cases e : c = i
            · rw [e, hc] at hc2; exact absurd hc2 (by decide)
            · omega) hc2 hne⟩
      simp only [B_X0_placeToClaim_15_s, Bb_X0_placeToClaim_15, B_X0_placeToClaim_67, B_X0_placeToClaim_68, B_X0_placeToClaim_97, B_X0_placeToClaim_100, hT.size, h, false_implies, true_and, not_false_eq_true, true_implies]
      rw [ix_n (by omega) (by omega), x_isSeenBy hT hO hW hi']
      simp only [b2i_0, Bool.not_eq_false, forall_eq, nI_1, x_hindrance hT hO hW hi', not_true_eq_false, false_implies, and_true, true_implies]
      refine ⟨fun q => skip (by cases hc : cnd w s tc (pl π i) with | false => rfl | true => rw [cnd_sees hc] at q; exact absurd q (by decide)), fun hse => ?_⟩
      refine ⟨fun q => skip (by cases hc : cnd w s tc (pl π i) with | false => rfl | true => exact absurd ((hind0 hse).mpr (by simp only [cnd, Bool.and_eq_true] at hc; exact hc.1)) q), fun hh => ?_⟩
      have hmay := (hind0 hse).mp hh
      rw [x_fits hT hO hW hi' hs hse ht4 htc]
      simp only [b2i_0, Bool.not_eq_false, show ¬ ((1 : Int32) = 0) from by decide, false_implies, not_false_eq_true, true_implies, true_and]
      refine ⟨fun q => skip (by simp only [cnd, q, Bool.and_false]), fun hask => ?_⟩
      have hcnd : cnd w s tc (pl π i) = true := by simp only [cnd, hmay, hask, Bool.and_self]
      cases o with
      | none =>
        simp only [oI, true_implies, not_true_eq_false, false_implies, and_true]
        refine ih (i + 1) m (some i) (by omega) (by omega) ⟨by omega, hcnd, fun c hc1 hc2 hne => ?_⟩
        have := ho c (by omega)
        rw [hc2] at this; exact absurd this (by decide)
      | some b =>
        have hb := ho.1
        simp only [oI, ni_m1 (show b < 2147483648 by omega), false_implies, not_false_eq_true, true_implies, true_and]
        rw [ix_n (by omega) (by omega), x_putsAhead hT hO hW hi' (show b < π.length by omega) hs hse (cnd_sees ho.2.1) hk4 hkc]
        simp only [b2i_0, Bool.not_eq_false]
        refine ⟨fun q => ih (i + 1) m (some b) (by omega) (by omega) ⟨by omega, ho.2.1, fun c hc1 hc2 hne => ?_⟩, fun q => ih (i + 1) m (some i) (by omega) (by omega) ⟨by omega, hcnd, fun c hc1 hc2 hne => ?_⟩⟩
        · by_cases e : c = i
          · rw [e]
            rw [ahk_lx] at q
            rw [ahd_lx]
            rcases lxl_tri (kf w s (pl π b)) (kf w s (pl π i)) kc 0 with z | z | z
            · simp [z]
            · simp [z, hO.sorted hb hi']
            · rw [z] at q; exact absurd q (by decide)
          · exact ho.2.2 c (by omega) hc2 hne
        · have hib : ahd w (pl π i) (pl π b) s 0 kc = true := by
            rw [ahk_lx] at q
            rw [ahd_lx, q]; rfl
          by_cases e : c = b
          · rw [e]; exact hib
          · exact ahd_tr hib (ho.2.2 c (by omega) hc2 e)
  exact key π.length 0 fuel none (by omega) (fuel_gt (by omega)) (fun c hc => absurd hc (Nat.not_lt_zero c))
end XP
end PU7
