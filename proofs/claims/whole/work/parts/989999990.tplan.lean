section PU76
/-! CALL table: the class reads a schedule -/
section TX
variable {S S' S1 : sSt} {T : Nat → Int32} {L x y b f lo hi t p B : Nat} {w : Wd} {ns np cm nl : Nat} {π : List Nat} {wr : Int32}
def KR (q : Nat) (S S' : sSt) : Prop := (∀ a b, ¬ (a = 1 ∧ b = 0) → ¬ (a = 25 ∧ b = q) → S'.1 a b = S.1 a b) ∧ (∀ f, f ≠ 3 → f ≠ 4 → S'.1 1 0 f = S.1 1 0 f) ∧ S'.2 = S.2
theorem KR.rfl {q : Nat} : KR q S S := ⟨fun _ _ _ _ => Eq.refl _, fun _ _ _ => Eq.refl _, Eq.refl _⟩
theorem KR.n {q : Nat} (h : KR q S S1) (g : NC S1 S') : KR q S S' := ⟨fun a b q1 q2 => (g.1 a b q1).trans (h.1 a b q1 q2), fun f q1 q2 => (g.2.1 f q1 q2).trans (h.2.1 f q1 q2), g.2.2.trans h.2.2⟩
theorem KR.r {q j : Nat} {v : Int32} (h : KR q S S1) (e : S' = uI S1 25 q j v) : KR q S S' := by
  rw [e]
  exact ⟨fun a b q1 q2 => by rw [uI_other q2]; exact h.1 a b q1 q2, fun f q1 q2 => by rw [uI_other (by omega)]; exact h.2.1 f q1 q2, h.2.2⟩
theorem KR.k {q : Nat} (h : KR q S S') (hq : q / 4 = t) : KT t S S' := ⟨fun a b q1 q2 => h.1 a b q2 (fun z => q1 (by unfold ow; omega)), h.2.1, h.2.2⟩
theorem RC.r {q j : Nat} {v : Int32} (h : RC S1 T L p wr) (e : S' = uI S1 25 q j v) : RC S' T L p wr := by
  rw [e]
  exact ⟨by rw [uI_other (by omega)]; exact h.1, by rw [uI_other (by omega)]; exact h.2.1, by rw [uI_other (by omega)]; exact h.2.2.1, fun z hz => by rw [uI_other (by omega)]; exact h.2.2.2 z hz⟩
theorem x_124 {q e a g pr c m xx : Nat} (hb : zB S t w π ns np cm nl) (hB : cm + 24 ≤ B + π.length) (hlt : np < 4) (hq : q = 4 * t + np) (hK : KR q S S1) (r1 : RC S1 T L p (-1)) (he : 1 ≤ e ∧ e ≤ 60) (ha : a ≤ 59) (hg : g < 6) (hc : 1 ≤ c ∧ c ≤ 9) (v0 : S1.1 25 q 0 = nI e) (v1 : S1.1 25 q 1 = nI a) (v2 : S1.1 25 q 2 = nI g) (v3 : S1.1 25 q 3 = nI pr) (v4 : S1.1 25 q 4 = nI c) (v5 : S1.1 25 q 5 = nI m) (v6 : S1.1 25 q 6 = nI xx) {k : sSt → Prop} (hk : ∀ S', KT t S S' → zY S' t (wpn w np e a g pr c m xx) B → RC S' T L p (-1) → k S') : B_X7_readSchedule_124 t q S1 k := by
  have hW := hb.2.2.1
  obtain ⟨mo, hmo, emo⟩ := hW.wall
  have c11 : S1.1 13 t 11 = w 4 := by rw [hK.1 13 t (by omega) (by omega)]; exact hb.1.sca.1 4 (by omega)
  have c8 : S1.1 13 t 8 = nI np := by rw [hK.1 13 t (by omega) (by omega)]; exact (hb.1.sca.1 1 (by omega)).trans hW.hnp.2
  rw [B_X7_readSchedule_124]
  refine x_isRight (fun _ => ⟨fun z => absurd z (by decide), fun _ => ?_⟩) (fun z => absurd r1.2.2.1 z)
  have fin : ∀ sl, sl = slq w e a → ∀ S32, S32 = uI S1 25 q 7 sl → ∀ S33, S33 = uI S32 13 t 8 (S32.1 13 t 8 + 1) → k S33 := by
    rintro sl hs S32 e32 S33 e33
    have c8' : S32.1 13 t 8 = nI np := by rw [e32, uI_other (by omega)]; exact c8
    rw [c8', nI_1] at e33
    have o25 : ∀ f, S33.1 25 q f = S32.1 25 q f := fun f => by rw [e33, uI_other (by omega)]
    have row : ∀ f, f < 8 → S33.1 25 (4 * t + np) f = pvl e a g pr c m xx (slq w e a) f := fun f hf => by
      rw [← hq, o25]
      rcases (show f = 0 ∨ f = 1 ∨ f = 2 ∨ f = 3 ∨ f = 4 ∨ f = 5 ∨ f = 6 ∨ f = 7 by omega) with rfl | rfl | rfl | rfl | rfl | rfl | rfl | rfl
      · rw [e32, uI_nc (by omega)]; exact v0
      · rw [e32, uI_nc (by omega)]; exact v1
      · rw [e32, uI_nc (by omega)]; exact v2
      · rw [e32, uI_nc (by omega)]; exact v3
      · rw [e32, uI_nc (by omega)]; exact v4
      · rw [e32, uI_nc (by omega)]; exact v5
      · rw [e32, uI_nc (by omega)]; exact v6
      · rw [e32, uI_at]; exact hs
    have kp : KP t S1 S33 := by rw [e33, e32]; exact (KP.rfl.i (by unfold ow; omega)).i (by unfold ow; omega)
    have r33 : S33.2 = S1.2 := by rw [e33, e32]; rfl
    have b33 := hb.newP (S' := S33) hlt he ha hg hc (fun x b q1 q2 q3 q4 => by rw [e33, uI_other q4, e32, uI_other (by omega), hK.1 x b (by unfold ow at q1; omega) (by omega)]) (fun f hf => by rw [e33, uI_nc (by omega), e32, uI_other (by omega), hK.1 13 t (by omega) (by omega)]) (by rw [e33, uI_at]) row (by rw [r33, hK.2.2])
    exact hk S33 ((hK.k (by omega)).tr (kp.k r33)) ⟨π, ns, np + 1, cm, nl, b33, hB⟩ (r1.k kp)
  rw [F_X4_slotOf, v0, v1, c11, B_X4_slotOf_16, emo]
  have es : slq w e a = if 0 ≤ nI mo - nI a then (nI mo - nI a) / nI e else -1 := by unfold slq; rw [emo]
  by_cases cc : mo < a
  · refine ⟨fun _ => fin _ ?_, fun z => absurd (nI_lt cc (by omega)) z⟩
    rw [es, if_neg (fun z => absurd (pk_sneg (show a < 2 ^ 30 by omega) cc) (Int32.not_lt.mpr z))]
  · refine ⟨fun z => absurd z (nI_nlt (by omega) (by omega)), fun _ => ⟨fun _ => ⟨nI_ne0 (by omega) (by omega), fin _ ?_⟩, fun z => absurd (nI_le (a := 1) he.1 (by omega)) z⟩⟩
    rw [es, if_pos (by rw [pk_sub (by omega)]; exact nI_pos' (by omega))]
theorem x_plan (hT : byt T) (hb : zB S t w π ns np cm nl) (hB : cm + 24 ≤ B + π.length) (h : RC S T L (bl T L x) (-1)) (hx : x ≤ L) (hL : L ≤ 400) (hlt : np < 4) {k : sSt → Prop} (h1 : ∀ w' y, ppl T L w x b = (some w', y) → y ≤ L → ∀ S', KT t S S' → zY S' t w' B → RC S' T L (bl T L y) (-1) → k S') (h0 : ∀ y, ppl T L w x b = (none, y) → y ≤ L → ∀ S' p, KT t S S' → p ≤ L → RC S' T L p (nI y) → k S') : F_X7_readSchedule t S k := by
  have hn := hb.2.2.1.hnp
  have c8 : S.1 13 t 8 = nI np := (hb.1.sca.1 1 (by omega)).trans hn.2
  have e0 : ppl T L w x b = bnd (pnum T L 1 60 x) (fun e x1 => bnd (pbeh T L 9 0 59 x1) (fun a x2 => bnd (pbeh T L 1 0 5 x2) (fun g x3 => bnd (pbeh T L 2 0 9 x3) (fun p x4 => bnd (pbeh T L 3 1 9 x4) (fun c x5 => bnd (pmod T L x5) (fun mx x6 => (some (wpn w np e a g p c mx.1 mx.2), x6))))))) := by
    unfold ppl
    rw [if_neg (fun q => by rw [hn.2, show (4 : Int32) = nI 4 from rfl, nI_eq (by omega) (by omega)] at q; omega), hn.2, nI_clamp (by omega)]
  obtain ⟨P, hP⟩ : ∃ P, P = ppl T L w x b := ⟨_, rfl⟩
  rw [← hP] at h1 h0 e0
  rw [F_X7_readSchedule, c8, ix_n (by omega) (by omega)]
  obtain ⟨q, hq⟩ : ∃ q, q = 4 * t + np := ⟨_, rfl⟩
  have hqt : q / 4 = t := by omega
  rw [← hq]
  have lost : ∀ (S' : sSt) (y : Nat), KR q S S' → y ≤ L → RC S' T L y (nI y) → P = (none, y) → B_X7_readSchedule_124 t q S' k := fun S' y kk hy r' e => by
    rw [B_X7_readSchedule_124]
    exact x_isRight (fun z => absurd z (r'.ne hy hL)) (fun _ => ⟨fun _ => h0 y e hy S' y (kk.k hqt) hy r', fun z => absurd rfl z⟩)
  have kK0 : KR q S S := KR.rfl
  refine x_pnum (lo := 1) (hi := 60) hT (by omega) (by omega) h hx hL (fun e y1 e1 l1 l60 hy1 S1 n1 r1 => ?_) (fun yf ef hyf Sf nf rf => ?_)
  rotate_left
  · have k0 := kK0.n nf
    rintro A0 eA0
    have kA0 := k0.r eA0
    have rA0 := rf.r eA0
    refine x_behw (lo := 0) (hi := 59) hT rA0 hyf hyf hL ?_
    rintro A1 eA1
    have kA1 := kA0.r eA1
    have rA1 := rA0.r eA1
    refine x_behw (lo := 0) (hi := 5) hT rA1 hyf hyf hL ?_
    rintro A2 eA2
    have kA2 := kA1.r eA2
    have rA2 := rA1.r eA2
    refine x_behw (lo := 0) (hi := 9) hT rA2 hyf hyf hL ?_
    rintro A3 eA3
    have kA3 := kA2.r eA3
    have rA3 := rA2.r eA3
    refine x_behw (lo := 1) (hi := 9) hT rA3 hyf hyf hL ?_
    rintro A4 eA4
    have kA4 := kA3.r eA4
    have rA4 := rA3.r eA4
    rintro A5 eA5 A6 eA6
    have kA6 := (kA4.r eA5).r eA6
    have rA6 := (rA4.r eA5).r eA6
    exact x_takeWord0 (rA6.ne hyf hL) ⟨fun _ => x_takeWord0 (rA6.ne hyf hL) ⟨fun _ => lost A6 _ kA6 hyf rA6 (by rw [e0]; exact bnd_n ef), fun z => absurd rfl z⟩, fun z => absurd rfl z⟩
  rintro B0 eB0
  have kK1 := (kK0.n n1).r eB0
  have rB0 := r1.r eB0
  have v0_0 : B0.1 25 q 0 = nI e := by rw [eB0, uI_at]
  refine x_beh (lo := 0) (hi := 59) hT (by omega) (by omega) (by omega) rB0 hy1 hL (fun a y2 e2 _ a59 hy2 S2 n2 r2 => ?_) (fun yf ef hyf Sf nf rf => ?_)
  rotate_left
  · have k0 := kK1.n nf
    rintro A1 eA1
    have kA1 := k0.r eA1
    have rA1 := rf.r eA1
    refine x_behw (lo := 0) (hi := 5) hT rA1 hyf hyf hL ?_
    rintro A2 eA2
    have kA2 := kA1.r eA2
    have rA2 := rA1.r eA2
    refine x_behw (lo := 0) (hi := 9) hT rA2 hyf hyf hL ?_
    rintro A3 eA3
    have kA3 := kA2.r eA3
    have rA3 := rA2.r eA3
    refine x_behw (lo := 1) (hi := 9) hT rA3 hyf hyf hL ?_
    rintro A4 eA4
    have kA4 := kA3.r eA4
    have rA4 := rA3.r eA4
    rintro A5 eA5 A6 eA6
    have kA6 := (kA4.r eA5).r eA6
    have rA6 := (rA4.r eA5).r eA6
    exact x_takeWord0 (rA6.ne hyf hL) ⟨fun _ => x_takeWord0 (rA6.ne hyf hL) ⟨fun _ => lost A6 _ kA6 hyf rA6 (by rw [e0, bnd_s e1]; exact bnd_n ef), fun z => absurd rfl z⟩, fun z => absurd rfl z⟩
  rintro B1 eB1
  have kK2 := (kK1.n n2).r eB1
  have rB1 := r2.r eB1
  have v0_1 : B1.1 25 q 0 = nI e := by rw [eB1, uI_nc (by omega), n2.1 25 q (by omega)]; exact v0_0
  have v1_1 : B1.1 25 q 1 = nI a := by rw [eB1, uI_at]
  refine x_beh (lo := 0) (hi := 5) hT (by omega) (by omega) (by omega) rB1 hy2 hL (fun g y3 e3 _ g5 hy3 S3 n3 r3 => ?_) (fun yf ef hyf Sf nf rf => ?_)
  rotate_left
  · have k0 := kK2.n nf
    rintro A2 eA2
    have kA2 := k0.r eA2
    have rA2 := rf.r eA2
    refine x_behw (lo := 0) (hi := 9) hT rA2 hyf hyf hL ?_
    rintro A3 eA3
    have kA3 := kA2.r eA3
    have rA3 := rA2.r eA3
    refine x_behw (lo := 1) (hi := 9) hT rA3 hyf hyf hL ?_
    rintro A4 eA4
    have kA4 := kA3.r eA4
    have rA4 := rA3.r eA4
    rintro A5 eA5 A6 eA6
    have kA6 := (kA4.r eA5).r eA6
    have rA6 := (rA4.r eA5).r eA6
    exact x_takeWord0 (rA6.ne hyf hL) ⟨fun _ => x_takeWord0 (rA6.ne hyf hL) ⟨fun _ => lost A6 _ kA6 hyf rA6 (by rw [e0, bnd_s e1, bnd_s e2]; exact bnd_n ef), fun z => absurd rfl z⟩, fun z => absurd rfl z⟩
  rintro B2 eB2
  have kK3 := (kK2.n n3).r eB2
  have rB2 := r3.r eB2
  have v0_2 : B2.1 25 q 0 = nI e := by rw [eB2, uI_nc (by omega), n3.1 25 q (by omega)]; exact v0_1
  have v1_2 : B2.1 25 q 1 = nI a := by rw [eB2, uI_nc (by omega), n3.1 25 q (by omega)]; exact v1_1
  have v2_2 : B2.1 25 q 2 = nI g := by rw [eB2, uI_at]
  refine x_beh (lo := 0) (hi := 9) hT (by omega) (by omega) (by omega) rB2 hy3 hL (fun p y4 e4 _ p9 hy4 S4 n4 r4 => ?_) (fun yf ef hyf Sf nf rf => ?_)
  rotate_left
  · have k0 := kK3.n nf
    rintro A3 eA3
    have kA3 := k0.r eA3
    have rA3 := rf.r eA3
    refine x_behw (lo := 1) (hi := 9) hT rA3 hyf hyf hL ?_
    rintro A4 eA4
    have kA4 := kA3.r eA4
    have rA4 := rA3.r eA4
    rintro A5 eA5 A6 eA6
    have kA6 := (kA4.r eA5).r eA6
    have rA6 := (rA4.r eA5).r eA6
    exact x_takeWord0 (rA6.ne hyf hL) ⟨fun _ => x_takeWord0 (rA6.ne hyf hL) ⟨fun _ => lost A6 _ kA6 hyf rA6 (by rw [e0, bnd_s e1, bnd_s e2, bnd_s e3]; exact bnd_n ef), fun z => absurd rfl z⟩, fun z => absurd rfl z⟩
  rintro B3 eB3
  have kK4 := (kK3.n n4).r eB3
  have rB3 := r4.r eB3
  have v0_3 : B3.1 25 q 0 = nI e := by rw [eB3, uI_nc (by omega), n4.1 25 q (by omega)]; exact v0_2
  have v1_3 : B3.1 25 q 1 = nI a := by rw [eB3, uI_nc (by omega), n4.1 25 q (by omega)]; exact v1_2
  have v2_3 : B3.1 25 q 2 = nI g := by rw [eB3, uI_nc (by omega), n4.1 25 q (by omega)]; exact v2_2
  have v3_3 : B3.1 25 q 3 = nI p := by rw [eB3, uI_at]
  refine x_beh (lo := 1) (hi := 9) hT (by omega) (by omega) (by omega) rB3 hy4 hL (fun c y5 e5 c1 c9 hy5 S5 n5 r5 => ?_) (fun yf ef hyf Sf nf rf => ?_)
  rotate_left
  · have k0 := kK4.n nf
    rintro A4 eA4
    have kA4 := k0.r eA4
    have rA4 := rf.r eA4
    rintro A5 eA5 A6 eA6
    have kA6 := (kA4.r eA5).r eA6
    have rA6 := (rA4.r eA5).r eA6
    exact x_takeWord0 (rA6.ne hyf hL) ⟨fun _ => x_takeWord0 (rA6.ne hyf hL) ⟨fun _ => lost A6 _ kA6 hyf rA6 (by rw [e0, bnd_s e1, bnd_s e2, bnd_s e3, bnd_s e4]; exact bnd_n ef), fun z => absurd rfl z⟩, fun z => absurd rfl z⟩
  rintro B4 eB4
  have kK5 := (kK4.n n5).r eB4
  have rB4 := r5.r eB4
  have v0_4 : B4.1 25 q 0 = nI e := by rw [eB4, uI_nc (by omega), n5.1 25 q (by omega)]; exact v0_3
  have v1_4 : B4.1 25 q 1 = nI a := by rw [eB4, uI_nc (by omega), n5.1 25 q (by omega)]; exact v1_3
  have v2_4 : B4.1 25 q 2 = nI g := by rw [eB4, uI_nc (by omega), n5.1 25 q (by omega)]; exact v2_3
  have v3_4 : B4.1 25 q 3 = nI p := by rw [eB4, uI_nc (by omega), n5.1 25 q (by omega)]; exact v3_3
  have v4_4 : B4.1 25 q 4 = nI c := by rw [eB4, uI_at]
  rintro B5 eB5 B6 eB6
  have kK6 := (kK5.r eB5).r eB6
  have rB6 := (rB4.r eB5).r eB6
  have v0_6 : B6.1 25 q 0 = nI e := by rw [eB6, uI_nc (by omega), eB5, uI_nc (by omega)]; exact v0_4
  have v1_6 : B6.1 25 q 1 = nI a := by rw [eB6, uI_nc (by omega), eB5, uI_nc (by omega)]; exact v1_4
  have v2_6 : B6.1 25 q 2 = nI g := by rw [eB6, uI_nc (by omega), eB5, uI_nc (by omega)]; exact v2_4
  have v3_6 : B6.1 25 q 3 = nI p := by rw [eB6, uI_nc (by omega), eB5, uI_nc (by omega)]; exact v3_4
  have v4_6 : B6.1 25 q 4 = nI c := by rw [eB6, uI_nc (by omega), eB5, uI_nc (by omega)]; exact v4_4
  have v5_6 : B6.1 25 q 5 = nI 0 := by rw [eB6, uI_nc (by omega), eB5, uI_at]; rfl
  have v6_6 : B6.1 25 q 6 = nI 0 := by rw [eB6, uI_at]; rfl
  have good : ∀ (m qq y6 : Nat) (S7 : sSt) (p' : Nat), pmod T L y5 = (some (m, qq), y6) → y6 ≤ L → KR q S S7 → RC S7 T L p' (-1) → p' = bl T L y6 → S7.1 25 q 0 = nI e → S7.1 25 q 1 = nI a → S7.1 25 q 2 = nI g → S7.1 25 q 3 = nI p → S7.1 25 q 4 = nI c → S7.1 25 q 5 = nI m → S7.1 25 q 6 = nI qq → B_X7_readSchedule_124 t q S7 k := by
    intro m qq y6 S7 p' e6 hy6 k7 r7 ep z0 z1 z2 z3 z4 z5 z6
    refine x_124 hb hB hlt hq k7 r7 ⟨l1, l60⟩ a59 (by omega) ⟨c1, c9⟩ z0 z1 z2 z3 z4 z5 z6 (fun S' kk yy r' => ?_)
    exact h1 _ y6 (by rw [e0, bnd_s e1, bnd_s e2, bnd_s e3, bnd_s e4, bnd_s e5, bnd_s e6]) hy6 S' kk yy (by rw [← ep]; exact r')
  refine x_word hT (by omega) rB6 hy5 hL (fun q1 S7 n7 r7 => ⟨fun z => absurd z (by decide), fun _ => ?_⟩) (fun q1 => ⟨fun _ => ?_, fun z => absurd rfl z⟩)
  · rintro C eC
    exact good 1 0 _ C _ (by unfold pmod; rw [if_pos q1]) (el_bl_le hL hy5) ((kK6.n n7).r eC) (r7.r eC) rfl (by rw [eC, uI_nc (by omega), n7.1 25 q (by omega)]; exact v0_6) (by rw [eC, uI_nc (by omega), n7.1 25 q (by omega)]; exact v1_6) (by rw [eC, uI_nc (by omega), n7.1 25 q (by omega)]; exact v2_6) (by rw [eC, uI_nc (by omega), n7.1 25 q (by omega)]; exact v3_6) (by rw [eC, uI_nc (by omega), n7.1 25 q (by omega)]; exact v4_6) (by rw [eC, uI_at]; rfl) (by rw [eC, uI_nc (by omega), n7.1 25 q (by omega)]; exact v6_6)
  · refine x_word hT (by omega) rB6 hy5 hL (fun q2 S7 n7 r7 => ⟨fun z => absurd z (by decide), fun _ => ?_⟩) (fun q2 => ⟨fun _ => ?_, fun z => absurd rfl z⟩)
    · rintro C eC
      have em : pmod T L y5 = bnd (pnum T L 0 9 (el T L (bl T L y5))) (fun v y => (some (2, v), y)) := by unfold pmod; rw [if_neg (by rw [q1]; decide), if_pos q2]
      have kC := (kK6.n n7).r eC
      have rC := r7.r eC
      refine x_pnum (lo := 0) (hi := 9) hT (by omega) (by omega) rC (el_bl_le hL hy5) hL (fun v y6 e6 _ v9 hy6 S8 n8 r8 => ?_) (fun y6 e6 hy6 S8 n8 r8 => ?_)
      · rintro D eD
        have o : ∀ f, f ≠ 5 → f ≠ 6 → D.1 25 q f = B6.1 25 q f := fun f q5 q6 => by rw [eD, uI_nc (by omega), n8.1 25 q (by omega), eC, uI_nc (by omega), n7.1 25 q (by omega)]
        exact good 2 v y6 D _ (by rw [em]; exact bnd_s e6) hy6 ((kC.n n8).r eD) (r8.r eD) rfl (by rw [o 0 (by omega) (by omega)]; exact v0_6) (by rw [o 1 (by omega) (by omega)]; exact v1_6) (by rw [o 2 (by omega) (by omega)]; exact v2_6) (by rw [o 3 (by omega) (by omega)]; exact v3_6) (by rw [o 4 (by omega) (by omega)]; exact v4_6) (by rw [eD, uI_nc (by omega), n8.1 25 q (by omega), eC, uI_at]; rfl) (by rw [eD, uI_at])
      · rintro D eD
        refine lost D y6 ((kC.n n8).r eD) hy6 (r8.r eD) ?_
        rw [e0, bnd_s e1, bnd_s e2, bnd_s e3, bnd_s e4, bnd_s e5]
        exact bnd_n (by rw [em]; exact bnd_n e6)
    · exact good 0 0 (bl T L y5) B6 _ (by unfold pmod; rw [if_neg (by rw [q1]; decide), if_neg (by rw [q2]; decide)]) (bl_ok (T := T) hL hy5).2.1 kK6 rB6 (by rw [bl_bl hL hy5]) v0_6 v1_6 v2_6 v3_6 v4_6 v5_6 v6_6
end TX
end PU76
