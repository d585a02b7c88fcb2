section PU53
/-! CALL race -/
section CS
variable {Sc Sc' Sm S' S : sSt} {l sp n t t' : Nat} {w w' : Wd} {π π' : List Nat} {ns np cm nl ns' np' cm' nl' : Nat}
theorem rng_split (A B : Nat) (P : Nat → Bool) : (List.range' 0 (A + B)).countP P = (List.range' 0 A).countP P + (List.range' A B).countP P := by
  rw [← List.range'_append (s := 0) (m := A) (n := B) (step := 1), List.countP_append]
  simp
/-- two who take alike in any order: counted by places, and by slots -/
theorem cnt_un (h : zOrd w π) {u v : Nat → Int32} (hu : ∀ j, j < 24 → lie w j = false → u j = v j) : (List.range' 0 24).countP (fun x => !decide ((if x < π.length then u (pl π x) else -1) = (if x < π.length then v (pl π x) else -1))) = (List.range' 0 24).countP (fun j => !decide (u j = v j)) := by
  have hlen := h.len
  obtain ⟨B, hB⟩ : ∃ B, 24 = π.length + B := ⟨24 - π.length, by omega⟩
  have e1 : (List.range' 0 24).countP (fun x => !decide ((if x < π.length then u (pl π x) else -1) = (if x < π.length then v (pl π x) else -1))) = (List.range' 0 π.length).countP (fun x => !decide (u (pl π x) = v (pl π x))) := by
    have e0 : (List.range' π.length B).countP (fun x => !decide ((if x < π.length then u (pl π x) else -1) = (if x < π.length then v (pl π x) else -1))) = 0 := List.countP_eq_zero.mpr (fun x hx => by
      rw [List.mem_range'_1] at hx
      rw [if_neg (by omega), if_neg (by omega)]
      simp)
    rw [hB, rng_split, e0, Nat.add_zero]
    refine List.countP_congr (fun x hx => ?_)
    rw [List.mem_range'_1] at hx
    rw [if_pos (by omega), if_pos (by omega)]
  rw [e1, cnt_pl π (fun j => !decide (u j = v j)), h.cnt]
  refine List.countP_congr (fun j hj => ?_)
  rw [List.mem_range'_1] at hj
  cases c : lie w j
  · rw [hu j (by omega) c]; simp
  · simp
/-- the model's two rounds -/
theorem m_raceOf (h10 : S.1 1 0 = w) (hW : WF w ns np cm nl) {s1 s2 tc1 kc1 al1 tc2 kc2 al2 tc3 kc3 al3 tc4 kc4 al4 : Nat} (hs1 : s1 < ns) (hs2 : s2 < ns) (a1 : tc1 ≤ 4) (a2 : kc1 ≤ 4) (a3 : al1 ≤ 6) (a4 : w (1149 + 27 * s1 + 5) = nI tc1) (a5 : w (1149 + 27 * s1 + 18) = nI kc1) (a6 : w (1149 + 27 * s1 + 4) = nI al1) (b1 : tc2 ≤ 4) (b2 : kc2 ≤ 4) (b3 : al2 ≤ 6) (b4 : (wcl s1 tc1 kc1 al1 w).1 (1149 + 27 * s2 + 5) = nI tc2) (b5 : (wcl s1 tc1 kc1 al1 w).1 (1149 + 27 * s2 + 18) = nI kc2) (b6 : (wcl s1 tc1 kc1 al1 w).1 (1149 + 27 * s2 + 4) = nI al2)
    (c1 : tc3 ≤ 4) (c2 : kc3 ≤ 4) (c3 : al3 ≤ 6) (c4 : w (1149 + 27 * s2 + 5) = nI tc3) (c5 : w (1149 + 27 * s2 + 18) = nI kc3) (c6 : w (1149 + 27 * s2 + 4) = nI al3) (d1 : tc4 ≤ 4) (d2 : kc4 ≤ 4) (d3 : al4 ≤ 6) (d4 : (wcl s2 tc3 kc3 al3 w).1 (1149 + 27 * s1 + 5) = nI tc4) (d5 : (wcl s2 tc3 kc3 al3 w).1 (1149 + 27 * s1 + 18) = nI kc4) (d6 : (wcl s2 tc3 kc3 al3 w).1 (1149 + 27 * s1 + 4) = nI al4) {k : Int32 → sSt → Prop}
    (hk : ∀ T, T.1 1 0 = w → (∀ a b, a ≠ 1 → a ≠ 4 → a ≠ 8 → a ≠ 10 → T.1 a b = S.1 a b) → k (nI ((List.range' 0 24).countP (fun j => !decide (tkr (wcl s1 tc1 kc1 al1 w).2 (wcl s2 tc2 kc2 al2 (wcl s1 tc1 kc1 al1 w).1).2 s1 s2 j = tkr (wcl s2 tc3 kc3 al3 w).2 (wcl s1 tc4 kc4 al4 (wcl s2 tc3 kc3 al3 w).1).2 s2 s1 j)))) T) : F_X12_raceOf (nI s1) (nI s2) S k := by
  refine m_race2 (fun S1 o1 x1 => ?_)
  rw [show fuel = (fuel - 1) + 1 from rfl, B_X12_raceOf_23_s, Bb_X12_raceOf_23]
  refine ⟨fun q => absurd q (by decide), fun _ => ?_⟩
  simp only [not_true_eq_false, false_implies, true_and, true_implies, B_X12_raceOf_43, B_X12_raceOf_57]
  refine m_round (r := 0) (by rw [o1 1 0 (by omega)]; exact h10) (by omega) (fun j hj => x1 _ (by omega)) hW hs1 hs2 a1 a2 a3 a4 a5 a6 b1 b2 b3 b4 b5 b6 (fun S2 e2 o2 t2 u2 => ?_)
  rw [forall_eq, show (0 + 1 : Int32) = 1 from rfl, show fuel - 1 = (fuel - 2) + 1 from rfl, B_X12_raceOf_23_s, Bb_X12_raceOf_23]
  refine ⟨fun q => absurd q (by decide), fun _ => ?_⟩
  simp only [show ¬ (1 : Int32) = 0 from by decide, not_false_eq_true, false_implies, and_true, true_implies, B_X12_raceOf_43, B_X12_raceOf_57]
  refine m_round (r := 1) e2 (by omega) (fun j hj => by rw [u2 _ (by omega)]; exact x1 _ (by omega)) hW hs2 hs1 c1 c2 c3 c4 c5 c6 d1 d2 d3 d4 d5 d6 (fun S3 e3 o3 t3 u3 => ?_)
  rw [forall_eq, show (1 + 1 : Int32) = 2 from rfl, show fuel - 2 = (fuel - 3) + 1 from rfl, B_X12_raceOf_23_s, Bb_X12_raceOf_23]
  refine ⟨fun _ => ?_, fun q => absurd (show (2 : Int32) ≤ 2 from by decide) q⟩
  rw [m_race75 (u := tkr (wcl s1 tc1 kc1 al1 w).2 (wcl s2 tc2 kc2 al2 (wcl s1 tc1 kc1 al1 w).1).2 s1 s2) (v := tkr (wcl s2 tc3 kc3 al3 w).2 (wcl s1 tc4 kc4 al4 (wcl s2 tc3 kc3 al3 w).1).2 s2 s1) (fun x hx => by
    rw [u3 x (by omega)]
    have := t2 x hx
    rw [show 24 * 0 + x = x from by omega] at this
    exact this) (fun x hx => t3 x hx)]
  exact hk S3 e3 (fun a b z1 z4 z8 z10 => by rw [o3 a b z1 z4 z8 z10, o2 a b z1 z4 z8 z10, o1 a b (by omega)])
theorem tkr_lie (hW : WF w ns np cm nl) {s1 s2 tc1 kc1 al1 tc2 kc2 al2 j : Nat} (hs1 : s1 < ns) (hs2 : s2 < ns) (hl : lie w j = false) : tkr (wcl s1 tc1 kc1 al1 w).2 (wcl s2 tc2 kc2 al2 (wcl s1 tc1 kc1 al1 w).1).2 s1 s2 j = -1 := by
  have o1 := wcl_ok (np := np) (cm := cm) (nl := nl) (tc := tc1) (kc := kc1) hs1 al1 w hW
  have o2 := wcl_ok (np := np) (cm := cm) (nl := nl) (tc := tc2) (kc := kc2) hs2 al2 _ o1.1
  unfold tkr
  rw [if_neg (fun q => ?_), if_neg (fun q => ?_)]
  · have := (o1.2.1 j q).2
    rw [hl] at this; exact absurd this (by decide)
  · have := o2.2.1 j q
    have e : lie (wcl s1 tc1 kc1 al1 w).1 j = lie w j := by unfold lie; rw [o1.2.2 j this.1]
    rw [e, hl] at this; exact absurd this.2 (by decide)
theorem cs_30 (h : Inv n Sc Sm) {a1 a2 a3 a4 a5 : Int32} {o : Int64} : CS_30 a1 a2 a3 a4 a5 Sc Sm o (fun S1 S2 _ => Inv (n + 1) S1 S2) := by
  obtain ⟨l, sp, π, ns, np, cm, nl, hR, hB, hc⟩ := h
  obtain ⟨w, hw⟩ : ∃ w, w = Sm.1 1 0 := ⟨_, rfl⟩
  have hs : Sm = sw Sm w := by rw [hw, sw_s]
  rw [← hw] at hB
  have hW := hB.2.2.1
  have hn := hW.hns.1
  have m0 : MK Sm (uI Sm 0 0 0 0) := MK.rfl.f (by omega)
  have hne : sp ≠ l := by have := hR.1; omega
  show FW_race a1 a2 Sc o (fun r1 S2 o3 => F_X12_race a1 a2 Sm (tl n r1 S2 o3))
  unfold FW_race F_X11_race
  have bad : (hasS w a1 = false ∨ hasS w a2 = false) → F_X12_race a1 a2 Sm (tl n 1 Sc o) := by
    intro hno
    have out : B_X12_race_22 a1 a2 (sw (uI Sm 0 0 0 0) w) (tl n 1 Sc o) := by
      rw [B_X12_race_22, B_X12_race_27, m_throws1]
      refine ⟨fun _ => ?_, fun q => absurd q (by decide)⟩
      rw [B_X12_race_52, sw_c (by omega)]
      exact tl_ex uI_at (by decide) (inv_same hR hB hc (m0.f (by omega)))
    rw [hs, F_X12_race]
    rintro S1 rfl
    rw [sw_c (by omega), m_noSession, sw_w]
    simp only [b2i_0, Bool.not_eq_false']
    refine ⟨fun _ => out, fun q => ?_⟩
    rw [m_noSession, sw_w]
    simp only [b2i_0, Bool.not_eq_false']
    refine ⟨fun q2 => ?_, fun _ => out⟩
    rcases hno with c | c
    · rw [c] at q; exact absurd q (by decide)
    · rw [c] at q2; exact absurd q2 (by decide)
  have start : hasS w a1 = true → hasS w a2 = true → ∀ {kk : Int32 → sSt → Prop}, ((¬ a1 = a2 → B_X12_race_45 a1 a2 0 (sw (uI Sm 0 0 0 0) w) kk) ∧ (a1 = a2 → B_X12_race_45 a1 a2 1 (sw (uI Sm 0 0 0 0) w) kk)) → F_X12_race a1 a2 Sm kk := by
    intro q1 q2 kk hq
    rw [hs, F_X12_race]
    rintro S1 rfl
    rw [sw_c (by omega), m_noSession, sw_w, q1]
    refine ⟨fun q => absurd rfl q, fun _ => ?_⟩
    rw [m_noSession, sw_w, q2]
    refine ⟨fun _ => ?_, fun q => absurd rfl q⟩
    rw [B_X12_race_27, m_throws0]
    exact ⟨fun q => absurd rfl q, fun _ => hq⟩
  refine x_needSession hR.2.1 hB (fun s1 hs1 ha1 => ?_) (fun q => ⟨fun _ => bad (Or.inl q), fun q => absurd rfl q⟩)
  refine x_needSession hR.2.1 hB (fun s2 hs2 ha2 => ?_) (fun q => ⟨fun _ => bad (Or.inr q), fun q => absurd rfl q⟩)
  have hh1 : hasS w a1 = true := by rw [ha1]; exact hasS_of hW hs1
  have hh2 : hasS w a2 = true := by rw [ha2]; exact hasS_of hW hs2
  refine ⟨fun hd => ?_, fun hd => ⟨fun q => absurd q (by decide), fun _ => ⟨fun _ => start hh1 hh2 ⟨fun q => absurd hd q, fun _ => ?_⟩, fun q => absurd rfl q⟩⟩⟩
  · obtain ⟨tc1, kc1, al1, x1, x2, -, x3, x4, x5, x6⟩ := wf_ses hW hs1
    obtain ⟨tc3, kc3, al3, y1, y2, -, y3, y4, y5, y6⟩ := wf_ses hW hs2
    have hW1 := (wcl_ok (np := np) (cm := cm) (nl := nl) (tc := tc1) (kc := kc1) hs1 al1 w hW).1
    have hW3 := (wcl_ok (np := np) (cm := cm) (nl := nl) (tc := tc3) (kc := kc3) hs2 al3 w hW).1
    obtain ⟨tc2, kc2, al2, z1, z2, -, z3, z4, z5, z6⟩ := wf_ses hW1 hs2
    obtain ⟨tc4, kc4, al4, v1, v2, -, v3, v4, v5, v6⟩ := wf_ses hW3 hs1
    have kept : ∀ {A B : sSt}, (∀ a b, ¬ (a = 11 ∧ b = 0) → ¬ (a = 12 ∧ b = 0) → B.1 a b = A.1 a b) → B.2 = A.2 → KP sp A B := fun o r => ⟨fun a b q => o a b (fun z => q (by unfold ow; omega)) (fun z => q (by unfold ow; omega)), fun a b _ => by rw [r]⟩
    have moved : ∀ {A B : sSt}, zB A l w π ns np cm nl → KP sp A B → B.2 = A.2 → zB B l w π ns np cm nl := fun hA hk _ => hA.kp (fun q => hne q.symm) hk
    have rf : ∀ {A : sSt}, A.2 = Sc.2 → A.2 0 0 4 = l ∧ A.2 0 0 5 = sp ∧ zRef A sp := fun q => by
      rw [q]; exact ⟨hR.2.1, hR.2.2.1, by unfold zRef; rw [q]; exact hR.2.2.2.1⟩
    rw [ha1, ha2]
    refine x_startRace (fun S1 o1 r1 t1 => ?_)
    have k1 := kept (fun a b q _ => o1 a b q) r1
    have B1 := moved hB k1 r1
    obtain ⟨f1, g1, i1⟩ := rf r1
    refine x_tryBoth f1 g1 B1 i1 hne t1 hs1 hs2 x1 x2 x3 x4 x5 x6 z1 z2 z3 z4 z5 z6 (fun S2 k2 r2 _ t2 => ?_)
    have r2' : S2.2 = Sc.2 := r2.trans r1
    have B2 := moved B1 k2 r2
    refine x_turnRace (fun S3 o3 r3 t3 u3 => ?_)
    have k3 := kept o3 r3
    have r3' : S3.2 = Sc.2 := r3.trans r2'
    have B3 := moved B2 k3 r3
    obtain ⟨f3, g3, i3⟩ := rf r3'
    refine x_tryBoth f3 g3 B3 i3 hne t3 hs2 hs1 y1 y2 y3 y4 y5 y6 v1 v2 v3 v4 v5 v6 (fun S4 k4 r4 e4 t4 => ?_)
    have r4' : S4.2 = Sc.2 := r4.trans r3'
    rw [x_unlike t4 (fun x hx => by rw [e4, u3 x hx, t2 x hx])]
    have kk := k1.tr (k2.tr (k3.tr k4))
    rw [← ha1, ← ha2]
    refine start hh1 hh2 ⟨fun _ => ?_, fun q => absurd q hd⟩
    rw [B_X12_race_45, m_throws0]
    refine ⟨fun _ => ?_, fun q => absurd rfl q⟩
    rw [ha1, ha2]
    refine m_raceOf (by rw [sw_w]) hW hs1 hs2 x1 x2 x3 x4 x5 x6 z1 z2 z3 z4 z5 z6 y1 y2 y3 y4 y5 y6 v1 v2 v3 v4 v5 v6 (fun T e5 o5 => ?_)
    have eT : T = sw T w := by rw [← e5, sw_s]
    have hmk : MK Sm T := m0.tr ⟨fun f _ _ _ _ => by rw [o5 0 0 (by omega) (by omega) (by omega) (by omega), sw_o (by omega)], by rw [o5 2 0 (by omega) (by omega) (by omega) (by omega), sw_o (by omega)], by rw [o5 6 0 (by omega) (by omega) (by omega) (by omega), sw_o (by omega)]⟩
    rw [eT]
    refine tl_ok (by rw [o5 0 0 (by omega) (by omega) (by omega) (by omega), sw_o (by omega)]; exact uI_at) (inv_spare hR hB hc kk r4' hmk) ?_
    rw [cnt_un hB.2.1 (fun j _ hl => by rw [tkr_lie hW hs2 hs1 hl, tkr_lie hW hs1 hs2 hl])]
    refine congrArg nI (List.countP_congr (fun j _ => ?_))
    simp only [eq_comm]
  · rw [B_X12_race_45, m_throws1]
    refine ⟨fun q => absurd q (by decide), fun _ => ?_⟩
    rw [B_X12_race_52, sw_c (by omega)]
    exact tl_ex uI_at (by decide) (inv_same hR hB hc (m0.f (by omega)))
end CS
end PU53
