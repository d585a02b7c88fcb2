section PU41
/-! CALL: bring -/
section CS
variable {Sc Sc' Sm S' S : sSt} {l sp n t : Nat} {w w' : Wd} {π π' : List Nat} {ns np cm nl ns' np' cm' nl' : Nat}
theorem wnew_o2 {j off off' x : Nat} {inn inn' g pr co du : Int32} (h : ¬ (21 + 47 * j ≤ x ∧ x < 68 + 47 * j)) : wnew w j off inn g pr co du x = wnew w j off' inn' g pr co du x := by
  unfold wnew; rw [if_neg h, if_neg h]
/-- brought: it lies with the session alone -/
def wbr (w : Wd) (j s : Nat) (g pr co : Int32) : Wd := va_up (wnew w j 25 0 g pr co (w 3)) (21 + 47 * j + 2) (nI s)
theorem x_ownNew {j g co : Nat} {pr : Int32} (h : zB S t (wnew w j 3 1 (nI g) pr (nI co) (w 3)) (π ++ [j]) ns np (cm + 1) nl) (e6 : w 6 = nI cm) {s : Nat} (hs : s < ns) (hj : j < 24) {k : sSt → Prop} (hk : ∀ S', zB S' t (wbr w j s (nI g) pr (nI co)) (π ++ [j]) ns np (cm + 1) nl → KP t S S' → S'.2 = S.2 → S'.1 21 (S.2 14 t π.length) 6 = nI cm → k S') : F_X1_ownBy (S.2 14 t π.length) (nI s) S k := by
  have hn := h.2.2.1.hns.1
  have hi : π.length < (π ++ [j]).length := by rw [List.length_append, List.length_singleton]; omega
  have hpl : pl (π ++ [j]) π.length = j := pl_last
  have hlen := h.2.1.len
  have hi24 : π.length < 24 := by omega
  have hqt := h.1.ref.1 _ hi24
  have ho : oth (wnew w j 3 1 (nI g) pr (nI co) (w 3)) (pl (π ++ [j]) π.length) (nI s) = false := by
    rw [hpl]; unfold oth; rw [wnew_lkr]; simp
  have hver : ver (wnew w j 3 1 (nI g) pr (nI co) (w 3)) j (nI s) = 21 + 47 * j + 3 := by
    unfold ver mine
    rw [wnew_lkr]
    rw [if_neg]
    simp only [Bool.and_eq_true, decide_eq_true_eq, not_and]
    intro _ q
    exact ni_m1 (n := s) (by omega) q.symm
  rw [F_X1_ownBy]
  refine h.lockFor hi hs ho (fun S2 q2 => ?_)
  rintro S3 e3
  rw [hpl] at q2 ho
  have hB2 := q2.1
  have r2 : S2.2 = S.2 := q2.2.1.2.1
  have o : ∀ a b, ¬ (a = 21 ∧ b = S.2 14 t π.length) → S3.1 a b = S2.1 a b := fun a b z => by rw [e3]; exact uI_other z
  have r3 : S3.2 = S2.2 := by rw [e3]; rfl
  have f21 : ∀ f, f ≠ 5 → S3.1 21 (S.2 14 t π.length) f = S2.1 21 (S.2 14 t π.length) f := fun f hf => by rw [e3]; exact uI_nc (by omega)
  have f5 : S3.1 21 (S.2 14 t π.length) 5 = 0 := by rw [e3]; exact uI_at
  obtain ⟨a1, a2, a3, a4, a5⟩ := (hB2.1.job _ hi).1
  have hz := (hB2.1.job _ hi).2
  rw [r2, hpl] at a1 a2 a3 a4 a5 hz
  have hW2 := hB2.2.2.1
  have eout : ∀ x, ¬ (21 + 47 * j ≤ x ∧ x < 68 + 47 * j) → wbr w j s (nI g) pr (nI co) x = wlk (wnew w j 3 1 (nI g) pr (nI co) (w 3)) j (nI s) x := fun x hx => by
    unfold wbr
    rw [up_ne (by omega), wlk_out (by omega)]
    exact wnew_o2 hx
  have en1 : num (wlk (wnew w j 3 1 (nI g) pr (nI co) (w 3)) j (nI s)) j = nI cm := by
    unfold num; rw [wlk_out (by omega)]; exact wnew_num.trans e6
  have en2 : num (wbr w j s (nI g) pr (nI co)) j = nI cm := by
    unfold num wbr; rw [up_ne (by omega)]; exact wnew_num.trans e6
  have el2 : lkr (wbr w j s (nI g) pr (nI co)) j = nI s := by unfold lkr wbr; exact up_eq
  have e12 : wbr w j s (nI g) pr (nI co) (21 + 47 * j + 1) = 0 := by unfold wbr; rw [up_ne (by omega)]; exact wnew_1
  have eown : ∀ f, f < 22 → wlk (wnew w j 3 1 (nI g) pr (nI co) (w 3)) j (nI s) (21 + 47 * j + 25 + f) = wbr w j s (nI g) pr (nI co) (21 + 47 * j + 25 + f) := fun f hf => by
    rw [wlk_ver (by omega) ho hf, hver, wnew_v (by omega) (by omega) hf]
    unfold wbr
    rw [up_ne (by omega), wnew_v (by omega) (by omega) hf]
  have hk1 : lkr (wlk (wnew w j 3 1 (nI g) pr (nI co) (w 3)) j (nI s)) j ≠ -1 := by rw [wlk_lk]; exact ni_m1 (by omega)
  have hl1 : lie (wlk (wnew w j 3 1 (nI g) pr (nI co) (w 3)) j (nI s)) j = true := by
    have := hB2.2.1.la hi
    rw [hpl] at this; exact this
  have cj : ∀ v f, cJ S3 (S.2 14 t π.length) v f = cJ S2 (S.2 14 t π.length) v f := fun v f => cJ.g (fun f hf => f21 f (by omega)) (fun f _ => by rw [o 22 v (by omega)]) f
  have hB3 : zB S3 t (wbr w j s (nI g) pr (nI co)) (π ++ [j]) ns np (cm + 1) nl := by
    refine ⟨hB2.1.upd hB2.2.1 hn hW2.hnp.1 hW2.hnl.1 hi (fun k a c1 _ => o k a (by rw [r2] at c1; exact c1)) r3 (fun x hx => eout x (by rw [hpl] at hx; exact hx)) ?_ ?_, hB2.2.1.c (fun x hx => ?_), hW2.slot (j := j) eout hj ?_ (Or.inl (en2.trans en1.symm)), hB2.2.2.2.c hn (fun x hx => ?_) (fun s' _ => eout _ (by omega)) (fun x _ _ => eout x (by omega))⟩
    · rw [r2, hpl]
      refine ⟨by rw [f21 6 (by omega), a1, en1, en2], by rw [f5, e12], by rw [f21 4 (by omega), a3, wlk_lk, el2], fun z => absurd z (by rw [e12]; decide), fun _ f hf => ?_⟩
      rw [cj, a5 hk1 f hf]
      exact eown f hf
    · rw [r2, hpl]
      intro s' k' hs' hk' hlk hsv
      rw [el2] at hlk
      rw [eout _ (by omega)] at hsv
      obtain ⟨b1, b2⟩ := hz s' k' hs' hk' (by rw [wlk_lk]; exact hlk) hsv
      have es : svb S3 (S.2 14 t π.length) k' = svb S2 (S.2 14 t π.length) k' := by unfold svb; rw [f21 3 (by omega)]
      rw [es, eout _ (by unfold svp; omega)]
      refine ⟨b1, fun z f hf => ?_⟩
      rw [cj, eout _ (by unfold svp; omega)]
      exact b2 z f hf
    · by_cases c : x = j
      · rw [c]; exact en2.trans en1.symm
      · exact eout _ (by omega)
    · rcases hW2.job j hj with z | ⟨z1, z2, z3, z4, z5, z6⟩
      · exact absurd z (lie_n hl1)
      · refine Or.inr ⟨by rw [en2, ← en1]; exact z1, Or.inl e12, Or.inr (by rw [el2]; exact ni_m1 (by omega)), Or.inr ⟨s, hs, el2⟩, fun z => absurd z (by rw [e12]; decide), fun _ => (z6 hk1).c (fun f hf => (eown f hf).symm)⟩
    · by_cases c : x = j
      · rw [c]
        refine ⟨en2.trans en1.symm, ?_⟩
        exact el2.trans wlk_lk.symm
      · exact ⟨eout _ (by omega), eout _ (by omega)⟩
  refine hk S3 hB3 (q2.2.1.1.tr (by rw [e3]; exact KP.rfl.i (by unfold ow; omega))) (r3.trans r2) ?_
  rw [f21 6 (by omega), a1, en1]
theorem x_needGroup {a : Int32} {k : sSt → Prop} {kx : String → sSt → Prop} (h1 : ∀ g, g < 6 → a = nI g → k S) (h0 : (¬ ∃ y, y ≤ 5 ∧ a = nI y) → kx "java/lang/IndexOutOfBoundsException" S) : F_X11_needGroup a S k kx := by
  unfold F_X11_needGroup
  rw [B_X11_needGroup_10]
  refine ⟨fun c => h0 ?_, fun c => ⟨fun c2 => ?_, fun c2 => h0 ?_⟩⟩
  · rintro ⟨y, y1, y2⟩; rw [y2] at c; exact nI_pos (by omega) c
  · obtain ⟨y, y1, y2⟩ := nI_of c
    have hy : y < 6 := by rw [y2, show (6 : Int32) = nI 6 from rfl, nI_ltI y1 (by omega)] at c2; exact c2
    exact h1 y hy y2
  · rintro ⟨y, y1, y2⟩; rw [y2] at c2; exact c2 (nI_lt (b := 6) (by omega) (by omega))
theorem lying_cnt (hO : zOrd w π) : (List.range' 0 24).countP (lie w) = π.length := by
  have := hO.cnt (fun _ => true)
  rw [List.countP_true] at this
  rw [this]
  exact List.countP_congr fun o _ => by simp
theorem cs_18 (hn5 : n < 512) (h : Inv n Sc Sm) {a1 a2 a3 a4 a5 : Int32} {o : Int64} : CS_18 a1 a2 a3 a4 a5 Sc Sm o (fun S1 S2 _ => Inv (n + 1) S1 S2) := by
  obtain ⟨l, sp, π, ns, np, cm, nl, hR, hB, hc⟩ := h
  obtain ⟨w, hw⟩ : ∃ w, w = Sm.1 1 0 := ⟨_, rfl⟩
  have hs : Sm = sw Sm w := by rw [hw, sw_s]
  rw [← hw] at hB
  have hW := hB.2.2.1
  have hn := hW.hns.1
  have m0 : MK Sm (uI Sm 0 0 0 0) := MK.rfl.f (by omega)
  have hlen := hB.2.1.len
  show FW_bring a1 a2 a3 a4 Sc o (fun r1 S2 o3 => F_X12_bring a1 a2 a3 a4 Sm (tl n r1 S2 o3))
  unfold FW_bring F_X11_bring
  -- the model's roads
  have w3 : ∀ {kk : Int32 → sSt → Prop}, B_X12_bring_23 a1 a2 a3 a4 (sw (uI Sm 0 0 0 0) w) (tl n 1 Sc o) := by
    rw [B_X12_bring_23, B_X12_bring_28, m_throws1, sw_c (by omega)]
    exact ⟨fun _ => tl_ex uI_at (by decide) (inv_same hR hB hc (m0.f (by omega))), fun q => absurd q (by decide)⟩
  refine x_needSession hR.2.1 hB (fun s hs' ha => ?_) (fun hno => ⟨fun _ => ?_, fun q => absurd rfl q⟩)
  · have st1 : ∀ {kk : Int32 → sSt → Prop}, (((∃ y, y ≤ 5 ∧ a2 = nI y) → B_X12_bring_28 a1 a2 a3 a4 0 (sw (uI Sm 0 0 0 0) w) kk) ∧ ((¬ ∃ y, y ≤ 5 ∧ a2 = nI y) → B_X12_bring_23 a1 a2 a3 a4 (sw (uI Sm 0 0 0 0) w) kk)) → F_X12_bring a1 a2 a3 a4 Sm kk := by
      intro kk hq
      rw [hs, F_X12_bring]
      rintro S1 rfl
      rw [sw_c (by omega), m_noSession, sw_w, ha, hasS_of hW hs']
      refine ⟨fun q => absurd rfl q, fun _ => ?_⟩
      rw [← ha, m_in, show (5 : Int32) = nI 5 from rfl]
      by_cases c : ∃ y, y ≤ 5 ∧ a2 = nI y
      · rw [(rng_in (by omega)).mpr c]
        exact ⟨fun _ => hq.1 c, fun q => absurd q (by decide)⟩
      · rw [bfalse (rng_in (by omega)) c]
        exact ⟨fun q => absurd rfl q, fun _ => hq.2 c⟩
    refine x_needGroup (fun g hg hg' => ?_) (fun hno => ⟨fun _ => st1 ⟨fun c => absurd c hno, fun _ => w3 (kk := tl n 1 Sc o)⟩, fun q => absurd rfl q⟩)
    have st2 : ∀ {kk : Int32 → sSt → Prop}, (((¬ a3 < 0 ∧ ¬ 9 < a3) ∧ (¬ a4 < 1 ∧ ¬ 9 < a4) → B_X12_bring_62 a1 a2 a3 a4 0 (sw (uI Sm 0 0 0 0) w) kk) ∧ (¬ ((¬ a3 < 0 ∧ ¬ 9 < a3) ∧ (¬ a4 < 1 ∧ ¬ 9 < a4)) → B_X12_bring_62 a1 a2 a3 a4 1 (sw (uI Sm 0 0 0 0) w) kk)) → F_X12_bring a1 a2 a3 a4 Sm kk := by
      intro kk hq
      refine st1 ⟨fun _ => ?_, fun q => absurd ⟨g, by omega, hg'⟩ q⟩
      rw [B_X12_bring_28, m_throws0]
      refine ⟨fun q => absurd rfl q, fun _ => ?_⟩
      rw [m_in]
      simp only [b2i_0, Bool.not_eq_false, B_X12_bring_57]
      refine ⟨fun q => hq.2 (fun z => ?_), fun q => ?_⟩
      · rw [in_b.mpr z.1] at q; exact absurd q (by decide)
      · rw [m_in]
        simp only [b2i_0, Bool.not_eq_false]
        refine ⟨fun q2 => hq.1 ⟨in_b.mp q, in_b.mp q2⟩, fun q2 => hq.2 (fun z => ?_)⟩
        rw [in_b.mpr z.2] at q2; exact absurd q2 (by decide)
    have bad : ¬ ((¬ a3 < 0 ∧ ¬ 9 < a3) ∧ (¬ a4 < 1 ∧ ¬ 9 < a4)) → F_X12_bring a1 a2 a3 a4 Sm (tl n 2 Sc o) := fun q => st2 ⟨fun z => absurd z q, fun _ => by
      rw [B_X12_bring_62, m_throws1, sw_c (by omega)]
      exact ⟨fun _ => tl_ex uI_at (by decide) (inv_same hR hB hc (m0.f (by omega))), fun q => absurd q (by decide)⟩⟩
    have ill : ¬ ((¬ a3 < 0 ∧ ¬ 9 < a3) ∧ (¬ a4 < 1 ∧ ¬ 9 < a4)) → B_X11_bring_33 Sc (fun r S1 => F_X12_bring a1 a2 a3 a4 Sm (tl n 0 S1 r.toInt64)) (fun E S1 => (E = "java/lang/IndexOutOfBoundsException" → F_X12_bring a1 a2 a3 a4 Sm (tl n 1 S1 o)) ∧ (¬ E = "java/lang/IndexOutOfBoundsException" → (E = "java/lang/IllegalArgumentException" → F_X12_bring a1 a2 a3 a4 Sm (tl n 2 S1 o)) ∧ (¬ E = "java/lang/IllegalArgumentException" → (E = "java/lang/UnsupportedOperationException" → F_X12_bring a1 a2 a3 a4 Sm (tl n 3 S1 o)) ∧ (¬ E = "java/lang/UnsupportedOperationException" → False)))) := fun q => by
      rw [B_X11_bring_33]
      exact ⟨fun q => absurd q (by decide), fun _ => ⟨fun _ => bad q, fun q => absurd rfl q⟩⟩
    refine ⟨fun c => ill (fun z => z.1.1 c), fun c => ⟨fun c2 => ill (fun z => z.1.2 c2), fun c2 => ⟨fun c3 => ill (fun z => z.2.1 c3), fun c3 => ⟨fun c4 => ?_, fun c4 => ill (fun z => z.2.2 (Int32.not_le.mp c4))⟩⟩⟩⟩
    have good : (¬ a3 < 0 ∧ ¬ 9 < a3) ∧ (¬ a4 < 1 ∧ ¬ 9 < a4) := ⟨⟨c, c2⟩, c3, Int32.not_lt.mpr c4⟩
    have st3 : ∀ {kk : Int32 → sSt → Prop}, ((π.length ≠ 24 → B_X12_bring_84 a1 a2 a3 a4 0 (sw (uI Sm 0 0 0 0) w) kk) ∧ (π.length = 24 → B_X12_bring_84 a1 a2 a3 a4 1 (sw (uI Sm 0 0 0 0) w) kk)) → F_X12_bring a1 a2 a3 a4 Sm kk := by
      intro kk hq
      refine st2 ⟨fun _ => ?_, fun z => absurd good z⟩
      rw [B_X12_bring_62, m_throws0]
      refine ⟨fun q => absurd rfl q, fun _ => ?_⟩
      rw [m_jobsLying, sw_w, lying_cnt hB.2.1, show (24 : Int32) = nI 24 from rfl, nI_eq (by omega) (by omega)]
      exact hq
    obtain ⟨co, co1, co2⟩ := nI_of (show ¬ a4 < 0 from fun z => c3 (Int32.lt_trans z (by decide)))
    have co9 : co ≤ 9 := by
      rw [co2, show (9 : Int32) = nI 9 from rfl, nI_leI co1 (by omega)] at c4; exact c4
    have coge : 1 ≤ co := by
      rw [co2, show (1 : Int32) = nI 1 from rfl, nI_ltI co1 (by omega)] at c3; omega
    obtain ⟨mo, hmo, emo⟩ := hW.mono
    by_cases hfull : π.length = 24
    · rw [hR.2.1, F_X6_addJob, hB.1.size]
      refine ⟨fun z => absurd z (nI_nlt (b := 24) (by omega) (by omega)), fun _ => opt_n.mpr ?_⟩
      refine ⟨fun q => absurd q (by decide), fun _ => ⟨fun q => absurd q (by decide), fun _ => ⟨fun _ => st3 ⟨fun q => absurd hfull q, fun _ => ?_⟩, fun q => absurd rfl q⟩⟩⟩
      rw [B_X12_bring_84, m_throws1, sw_c (by omega)]
      exact ⟨fun q => absurd q (by decide), fun _ => tl_ex uI_at (by decide) (inv_same hR hB hc (m0.f (by omega)))⟩
    · obtain ⟨j, hj, hlj, hfj⟩ := first_free hB.2.1 (show π.length < 24 by omega)
      rw [hR.2.1, hg', co2]
      refine x_addJob hB (by omega) (by omega) hj hlj hg coge co9 hmo emo (fun S1 b1 k1 r1 => opt_s.mpr ?_)
      rw [ha, ← r1]
      refine x_ownNew b1 hW.hcm.2 hs' hj (fun S2 b2 k2 r2 n2 => ?_)
      have hl2 : S2.2 0 0 4 = l := by rw [r2, r1]; exact hR.2.1
      rw [hl2]
      refine x_closeAct b2 hs' (fun S3 nl' b3 k3 => ?_)
      rw [k3.2.2.2.2, n2, ← ha, ← hg', ← co2]
      show F_X12_bring a1 a2 a3 a4 Sm (tl n 0 S3 _)
      refine st3 ⟨fun _ => ?_, fun q => absurd q hfull⟩
      rw [B_X12_bring_84, m_throws0]
      refine ⟨fun _ => ?_, fun q => absurd rfl q⟩
      rw [show (25 : Int32) = nI 25 from rfl, m_comes (Or.inr rfl) hj hlj hfj, if_pos rfl, m_jobAt2, ix_n (by omega) (by omega), forall_eq, sw_i, sw_w, m_numberOf hj, sw_w, ha]
      have eN : num (va_up (wnew w j 25 0 a2 a3 a4 (w 3)) (21 + 47 * j + 2) (nI s)) j = nI cm := by
        unfold num
        rw [up_ne (by omega)]
        exact wnew_num.trans hW.hcm.2
      rw [eN]
      have eW : va_up (wnew w j 25 0 a2 a3 a4 (w 3)) (21 + 47 * j + 2) (nI s) = wbr w j s (nI g) a3 (nI co) := by unfold wbr; rw [hg', co2]
      rw [eW]
      refine m_isDone b2.2.1 b2.2.2.1 hs' ?_
      exact tl_ok uI_at (inv_upd hR b3 (by omega) (k1.tr (k2.tr k3.1)) (by rw [k3.2.1, r2, r1]) m0) rfl
  · show F_X12_bring a1 a2 a3 a4 Sm (tl n 1 Sc o)
    rw [hs, F_X12_bring]
    rintro S1 rfl
    rw [sw_c (by omega), m_noSession, sw_w, hno]
    exact ⟨fun _ => w3 (kk := tl n 1 Sc o), fun q => absurd q (by decide)⟩
end CS
end PU41
