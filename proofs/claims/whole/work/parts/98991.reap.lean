section PU38
/-! CALL: reap -/
def late (w : Wd) (j s : Nat) : Bool := stt w j (nI s) 1 && !oth w j (nI s) && decide (w (ver w j (nI s) + 10) < w 3)
def rpj (w : Wd) (j s : Nat) : Wd := wfl (wlk w j (nI s)) j (nI 6) (w 10).toNatClampNeg (w 11).toNatClampNeg (wlk w j (nI s) (21 + 47 * j + 25 + 6) + 1).toNatClampNeg
def rps (s : Nat) : List Nat → Wd → Nat → Wd × Nat
  | [], w, c => (w, c)
  | j :: l, w, c => cond (late w j s) (rps s l (rpj w j s) (c + 1)) (rps s l w c)
section CS
variable {Sc Sc' Sm S' S : sSt} {l sp n t : Nat} {w w' : Wd} {π π' : List Nat} {ns np cm nl ns' np' cm' nl' : Nat}
theorem WF.ownv (h : WF w ns np cm nl) {j : Nat} (hj : j < 24) (hl : lkr w j ≠ -1) (hn : lie w j = true) (hw : ∀ x, ¬ (21 + 47 * j + 25 ≤ x ∧ x < 21 + 47 * j + 47) → w' x = w x) (hv : VOK w' (21 + 47 * j + 25)) : WF w' ns np cm nl := by
  refine h.slot (fun x hx => hw x (by omega)) hj ?_ (Or.inl (hw _ (by omega)))
  rcases h.job _ hj with q | ⟨q0, q1, q2, q3, q4, q5⟩
  · exact absurd q (lie_n hn)
  · unfold JOK num lkr at *
    rw [hw _ (by omega), hw _ (by omega), hw _ (by omega)]
    exact Or.inr ⟨q0, q1, q2, q3, fun c => (q4 c).c (fun f hf => hw _ (by omega)), fun _ => hv⟩
theorem late_oth {j s : Nat} (h : late w j s = true) : oth w j (nI s) = false ∧ w (ver w j (nI s) + 3) = 1 ∧ sees w j (nI s) = true := by
  unfold late stt at h
  simp only [Bool.and_eq_true, decide_eq_true_eq, Bool.not_eq_true'] at h
  exact ⟨h.1.2, h.1.1.2, h.1.1.1⟩
theorem rpj_num {j s x : Nat} : num (rpj w j s) x = num w x := by
  unfold num rpj
  rw [wfl_out (by omega)]
  by_cases c : x = j
  · rw [c, wlk_out (by omega)]
  · by_cases d : x < j
    · rw [wlk_out (by omega)]
    · rw [wlk_out (by omega)]
theorem rpj_ok (hW : WF w ns np cm nl) {j s : Nat} (hj : j < 24) (hs : s < ns) (h : late w j s = true) : ∃ B C L T, B ≤ 9 ∧ C ≤ 99 ∧ L ≤ 9 ∧ T ≤ 9 ∧ wlk w j (nI s) 10 = nI B ∧ wlk w j (nI s) 11 = nI C ∧ wlk w j (nI s) 13 = nI L ∧ wlk w j (nI s) (21 + 47 * j + 25 + 6) + 1 = nI T ∧ wlk w j (nI s) (21 + 47 * j + 25 + 3) ≠ 3 ∧ rpj w j s = wfl (wlk w j (nI s)) j (nI 6) B C T ∧ WF (rpj w j s) ns np cm nl := by
  have hn := hW.hns.1
  obtain ⟨ho, h1, hse⟩ := late_oth h
  obtain ⟨B, C, L, hB9, hC99, hL9, eB, eC, eL⟩ := wf_lim hW
  have hla := sees_lie hse
  have hW1 := hW.lock hj hs hla ho
  have hst : wlk w j (nI s) (21 + 47 * j + 25 + 3) = 1 := by rw [wlk_ver (by omega) ho (by omega)]; exact h1
  have hne3 : wlk w j (nI s) (21 + 47 * j + 25 + 3) ≠ 3 := by rw [hst]; decide
  have hk1 : lkr (wlk w j (nI s)) j ≠ -1 := by rw [wlk_lk]; exact ni_m1 (by omega)
  have hl1 : lie (wlk w j (nI s)) j = true := by unfold lie num at *; rw [wlk_out (by omega)]; exact hla
  have hv := hW1.vown hj hl1 hk1
  obtain ⟨T, hT9, eT⟩ : ∃ T, T ≤ 9 ∧ wlk w j (nI s) (21 + 47 * j + 25 + 6) + 1 = nI T := by
    obtain ⟨-, -, -, -, ⟨n, n1, n2, n3⟩, -⟩ := hv
    have : n ≠ 9 := fun q => hne3 (n3 q)
    exact ⟨n + 1, by omega, by rw [n2]; exact nI_1 n⟩
  have e1 : rpj w j s = wfl (wlk w j (nI s)) j (nI 6) B C T := by
    unfold rpj
    rw [eB, eC, eT, nI_clamp (by omega), nI_clamp (by omega), nI_clamp (by omega)]
  have eB2 : wlk w j (nI s) 10 = nI B := by rw [wlk_out (by omega)]; exact eB
  have eC2 : wlk w j (nI s) 11 = nI C := by rw [wlk_out (by omega)]; exact eC
  have eL2 : wlk w j (nI s) 13 = nI L := by rw [wlk_out (by omega)]; exact eL
  refine ⟨B, C, L, T, hB9, hC99, hL9, hT9, eB2, eC2, eL2, eT, hne3, e1, ?_⟩
  obtain ⟨J, hJ9, eJ⟩ := hW1.jit
  obtain ⟨mo, hmo, emo⟩ := hW1.mono
  rcases hW1.job j hj with z | ⟨⟨x, x1, x2⟩, -⟩
  · exact absurd z (lie_n hl1)
  · rw [e1]
    exact hW1.ownv hj hk1 hl1 (fun x hx => wfl_out hx) (hv.fails hne3 (show 6 < 7 by omega) eT hT9 eL2 hL9 hC99 hJ9 eJ hmo emo (show x < 1000000 by have := hW.hcm.1; omega) x2)
theorem rpj_ord (hO : zOrd w π) {j s : Nat} : zOrd (rpj w j s) π := hO.c (fun x _ => rpj_num)
theorem late_b {j s : Nat} : late w j s = (sees w j (nI s) && !oth w j (nI s) && (decide (w (ver w j (nI s) + 3) = 1) && !decide (w 3 ≤ w (ver w j (nI s) + 10)))) := by
  unfold late stt
  rw [show decide (w (ver w j (nI s) + 10) < w 3) = !decide (w 3 ≤ w (ver w j (nI s) + 10)) from by
    by_cases c : w 3 ≤ w (ver w j (nI s) + 10)
    · have : ¬ w (ver w j (nI s) + 10) < w 3 := Int32.not_lt.mpr c
      simp [c, this, -Int32.not_lt, -Int32.not_le]
    · have : w (ver w j (nI s) + 10) < w 3 := Int32.not_le.mp c
      simp [c, this, -Int32.not_lt, -Int32.not_le]]
  cases sees w j (nI s) <;> cases oth w j (nI s) <;> simp
theorem x_reapLate (h : zB S t w π ns np cm nl) {s : Nat} (hs : s < ns) {k : Int32 → sSt → Prop} (hk : ∀ S', zB S' t (rps s π w 0).1 π ns np cm nl → KP t S S' → S'.2 = S.2 → k (nI (rps s π w 0).2) S') : F_X6_reapLate t (nI s) S k := by
  have hn := h.2.2.1.hns.1
  have hlen := h.2.1.len
  rw [F_X6_reapLate]
  suffices hh : ∀ r i m (c : Nat) (S1 : sSt) (w1 : Wd), i + r = π.length → r < m → zB S1 t w1 π ns np cm nl → KP t S S1 → S1.2 = S.2 → rps s π w 0 = rps s (π.drop i) w1 c → B_X6_reapLate_4 m t (nI s) (nI c) (nI i) S1 k from
    hh π.length 0 fuel 0 S w (by omega) (fuel_gt (by omega)) h KP.rfl rfl rfl
  intro r
  induction r with
  | zero =>
    intro i m c S1 w1 hi hm hB hK h2 he
    obtain ⟨m, rfl⟩ : ∃ q, m = q + 1 := ⟨m - 1, by omega⟩
    have e : i = π.length := by omega
    have e2 : π.drop i = [] := List.drop_eq_nil_of_le (by omega)
    rw [e2, rps] at he
    subst e
    simp only [B_X6_reapLate_4_s, Bb_X6_reapLate_4, hB.1.size, nI_leI (show π.length < 2147483648 by omega) (show π.length < 2147483648 by omega), Nat.le_refl, true_implies, not_true_eq_false, false_implies, and_true]
    have := hk S1 (by rw [he]; exact hB) hK h2
    rw [he] at this
    exact this
  | succ r ih =>
    intro i m c S1 w1 hi hm hB hK h2 he
    obtain ⟨m, rfl⟩ : ∃ q, m = q + 1 := ⟨m - 1, by omega⟩
    have hil : i < π.length := by omega
    have hlt : ¬ nI π.length ≤ nI i := nI_ge hil (by omega)
    have hj4 := hB.2.1.at hil
    rw [drop_pl hil, rps] at he
    have no : late w1 (pl π i) s = false → B_X6_reapLate_4 m t (nI s) (nI c) (nI (i + 1)) S1 k := fun q => ih (i + 1) m c S1 w1 (by omega) (by omega) hB hK h2 (by rw [he, q]; rfl)
    simp only [B_X6_reapLate_4_s, Bb_X6_reapLate_4, B_X6_reapLate_42, B_X6_reapLate_43, B_X6_reapLate_83, hB.1.size, hlt, false_implies, true_and, not_false_eq_true, true_implies]
    rw [ix_n (by omega) (by omega), x_isSeenBy hB.1 hB.2.1 hB.2.2.1 hil, x_isLockedByOther hB.1 hil, x_seenBy hB.1 hil]
    simp only [forall_eq, nI_1, b2i_0, Bool.not_eq_false, true_implies, not_true_eq_false, false_implies, and_true, show ¬ ((1 : Int32) = 0) from by decide, not_false_eq_true, true_and]
    refine ⟨fun c0 => no (by rw [late_b, c0]; rfl), fun c0 => ⟨fun c1 => no (by rw [late_b, c0, c1]; rfl), fun c1 => ?_⟩⟩
    rw [x_isLate hB (x_ver hB.1 hil c0)]
    simp only [b2i_0, Bool.not_eq_false]
    refine ⟨fun c2 => no (by rw [late_b, c2]; simp), fun c2 => ?_⟩
    have hla : late w1 (pl π i) s = true := by rw [late_b, c0, c1, c2]; rfl
    rw [hla] at he
    obtain ⟨B, C, L, T, g1, g2, g3, g4, g5, g6, g7, g8, g9, g10, -⟩ := rpj_ok hB.2.2.1 hj4 hs hla
    refine hB.lockFor hil hs c1 (fun S2 q2 => ?_)
    have en : S2.1 21 (S1.2 14 t i) 6 = num (wlk w1 (pl π i) (nI s)) (pl π i) := by
      have := x_num q2.1.1 hil
      rw [q2.2.1.2.1] at this; exact this
    rw [en, show (6 : Int32) = nI 6 from rfl]
    refine x_recordFailure q2 g9 g1 g2 g4 g5 g6 g8 g7 g3 (show 6 < 7 by omega) (fun S3 q3 => ?_)
    rw [← g10] at q3
    exact ih (i + 1) m (c + 1) S3 _ (by omega) (by omega) q3.1 (hK.tr q3.2.1.1) (q3.2.1.2.1.trans h2) he
theorem m_reap28 (hO : zOrd w π) (hW : WF w ns np cm nl) {s : Nat} (hs : s < ns) {k : Int32 → sSt → Prop} (hk : k (nI (rps s π w 0).2) (sw S (wact (rps s π w 0).1 π s))) : B_X12_reap_28 fuel (nI s) 0 (oI (nth π 0)) (sw S w) k := by
  have hn := hW.hns.1
  have hlen := hO.len
  suffices hh : ∀ r i m (c : Nat) (w1 : Wd), i + r = π.length → r < m → zOrd w1 π → WF w1 ns np cm nl → rps s π w 0 = rps s (π.drop i) w1 c → B_X12_reap_28 m (nI s) (nI c) (oI (nth π i)) (sw S w1) k from
    hh π.length 0 fuel 0 w (by omega) (fuel_gt (by omega)) hO hW rfl
  intro r
  induction r with
  | zero =>
    intro i m c w1 hi hm hO1 hW1 he
    obtain ⟨m, rfl⟩ : ∃ q, m = q + 1 := ⟨m - 1, by omega⟩
    have e : nth π i = none := by unfold nth; rw [if_neg (by omega)]
    have e2 : π.drop i = [] := List.drop_eq_nil_of_le (by omega)
    rw [e2, rps] at he
    rw [he] at hk
    simp only [B_X12_reap_28_s, Bb_X12_reap_28, e, oI, true_implies, not_true_eq_false, false_implies, and_true]
    exact m_isDone hO1 hW1 hs hk
  | succ r ih =>
    intro i m c w1 hi hm hO1 hW1 he
    obtain ⟨m, rfl⟩ : ∃ q, m = q + 1 := ⟨m - 1, by omega⟩
    have hil : i < π.length := by omega
    have hj4 := hO1.at hil
    have hvl := ver_lt (w := w1) (s := nI s) hj4
    have eb : bhd w1 (num w1 (pl π i)) = nth π (i + 1) := bhd_s hO1 hW1 hil
    rw [drop_pl hil, rps] at he
    have no : late w1 (pl π i) s = false → B_X12_reap_98 (fun a b c S => B_X12_reap_28 m a b c S k) (nI s) (nI c) (nI (pl π i)) (sw S w1) k := fun q => by
      rw [B_X12_reap_98, m_numberOf hj4, sw_w, m_behind, sw_w, eb]
      exact ih (i + 1) m c w1 (by omega) (by omega) hO1 hW1 (by rw [he, q]; rfl)
    simp only [B_X12_reap_28_s, Bb_X12_reap_28, oI_nth hil, ni_m1 (show pl π i < 2147483648 by omega), false_implies, true_and, not_false_eq_true, true_implies]
    rw [m_seen hj4, m_isState hj4, sw_w]
    simp only [b2i_0, Bool.not_eq_false]
    refine ⟨fun c0 => no (by unfold late; rw [c0]; rfl), fun c0 => ?_⟩
    have hse : sees w1 (pl π i) (nI s) = true := by unfold stt at c0; simp only [Bool.and_eq_true] at c0; exact c0.1
    rw [m_isOthers hj4, sw_w]
    simp only [b2i_0, Bool.not_eq_false]
    refine ⟨fun c1 => no (by unfold late; rw [c1]; simp), fun c1 => ?_⟩
    have e10 : seeI w1 (pl π i) (nI s) + 10 = nI (ver w1 (pl π i) (nI s) + 10) := by unfold seeI; rw [if_pos hse, na_10]
    rw [e10, ix_n (by omega) (by omega)]
    refine ⟨fun c2 => ?_, fun c2 => no (by unfold late; simp [c2])⟩
    have hla : late w1 (pl π i) s = true := by unfold late; simp [c0, c1, c2]
    rw [hla] at he
    obtain ⟨B, C, L, T, g1, g2, g3, g4, g5, g6, g7, g8, g9, g10, hW2⟩ := rpj_ok hW1 hj4 hs hla
    have hJ : ∃ c, c ≤ 9 ∧ wlk w1 (pl π i) (nI s) 12 = nI c := by rw [wlk_out (by omega)]; exact hW1.jit
    rw [m_locks hj4, show (6 : Int32) = nI 6 from rfl, m_failsBy hj4 hJ g1 g2 g4 g5 g6 g8 g7, ← g10, forall_eq, show nI c + 1 = nI (c + 1) from nI_1 c, B_X12_reap_98, m_numberOf hj4, sw_w, m_behind, sw_w]
    have hO2 := rpj_ord (s := s) (j := pl π i) hO1
    rw [bhd_s hO2 hW2 hil]
    exact ih (i + 1) m (c + 1) _ (by omega) (by omega) hO2 hW2 he
theorem cs_16 (h : Inv n Sc Sm) {a1 a2 a3 a4 a5 : Int32} {o : Int64} : CS_16 a1 a2 a3 a4 a5 Sc Sm o (fun S1 S2 _ => Inv (n + 1) S1 S2) := by
  obtain ⟨l, sp, π, ns, np, cm, nl, hR, hB, hc⟩ := h
  obtain ⟨w, hw⟩ : ∃ w, w = Sm.1 1 0 := ⟨_, rfl⟩
  have hs : Sm = sw Sm w := by rw [hw, sw_s]
  rw [← hw] at hB
  have hW := hB.2.2.1
  have hn := hW.hns.1
  have m0 : MK Sm (uI Sm 0 0 0 0) := MK.rfl.f (by omega)
  show FW_reap a1 Sc o (fun r1 S2 o3 => F_X12_reap a1 Sm (tl n r1 S2 o3))
  unfold FW_reap F_X11_reap
  refine x_needSession hR.2.1 hB (fun s hs' ha => ?_) (fun hno => ⟨fun _ => ?_, fun q => absurd rfl q⟩)
  · rw [hR.2.1, ha]
    refine x_reapLate hB hs' (fun S5 b5 k5 r5 => ?_)
    have hl5 : S5.2 0 0 4 = l := by rw [r5]; exact hR.2.1
    rw [hl5]
    refine x_closeAct b5 hs' (fun S8 nl' b8 k8 => ?_)
    show F_X12_reap (nI s) Sm (tl n 0 S8 _)
    rw [hs, F_X12_reap]
    rintro S1 rfl
    rw [sw_c (by omega)]
    refine m_needS (fun q => absurd (hasS_of hW hs') (by rw [q]; decide)) (fun _ => ?_)
    rw [m_behind, sw_w, bhd_0 hB.2.1 hW]
    refine m_reap28 hB.2.1 hW hs' ?_
    exact tl_ok uI_at (inv_upd hR b8 (c_le hc) (k5.tr k8.1) (by rw [k8.2.1, r5]) m0) rfl
  · show F_X12_reap a1 Sm (tl n 1 Sc o)
    rw [hs, F_X12_reap]
    rintro S1 rfl
    rw [sw_c (by omega)]
    exact m_needS (fun _ S' g1 g2 => tl_ex g1 (by decide) (inv_same hR hB hc (m0.tr g2))) (fun q => absurd hno (by rw [q]; decide))
end CS
end PU38
