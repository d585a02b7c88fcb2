section PU35
/-! CALLS: roll, sweep -/
section CS
variable {Sc Sc' Sm S' S : sSt} {l sp n t : Nat} {w w' : Wd} {π π' : List Nat} {ns np cm nl ns' np' cm' nl' : Nat}
theorem range_up (y : Nat) (P : Nat → Bool) : (List.range' 0 (y + 1)).countP P = (List.range' 0 y).countP P + (if P y then 1 else 0) := by
  rw [List.range'_1_concat, List.countP_append, Nat.zero_add, List.countP_singleton]
theorem zC.cls (h : zC S t w π ns np cm nl) {s : Nat} (hs : s < ns) : zC (uI (uI S 24 (4 * t + s) 3 0) 24 (4 * t + s) 4 0) t (wcls w s) π ns np cm nl :=
  ⟨h.1.cls h.2.1 h.2.2.hns.1 h.2.2.hnp.1 h.2.2.hnl.1 hs, h.2.1.c (fun j _ => wcls_out (by have := h.2.2.hns.1; omega) (by have := h.2.2.hns.1; omega)), h.2.2.cls hs⟩
theorem dn.at0 {u : Wd → Nat → Wd} {w1 : Wd} {D : Nat → Prop} (h : dn u w w1 D) {j : Nat} (hj : j < 24) (hd : ¬ D j) : w1 (21 + 47 * j) = w (21 + 47 * j) := h.at hj hd 0 (by omega)
theorem lbs_at {u : Wd → Nat → Wd} {w1 : Wd} {D : Nat → Prop} (h : dn u w w1 D) {j : Nat} (hj : j < 24) (hd : ¬ D j) (s : Int32) : lbs w1 s j = lbs w s j := by
  unfold lbs lie num lkr
  rw [h.at0 hj hd, h.at hj hd 2 (by omega)]
theorem mine_lbs {j : Nat} (hl : lie w j = true) {s : Nat} (hs : s < 2147483648) : mine w j (nI s) = lbs w (nI s) j := by
  unfold mine lbs
  rw [hl]
  simp [ni_m1 hs]
theorem x_rollAll (h : zC S t w π ns np cm nl) {s : Nat} (hs : s < ns) {k : Int32 → sSt → Prop} (hk : ∀ S' π' w1, dn wfr w w1 (fun j => lbs w (nI s) j = true) → zC S' t (wcls w1 s) π' ns np cm nl → KP t S S' → k (nI ((List.range' 0 24).countP (lbs w (nI s)))) S') : F_X6_rollAll t (nI s) S k := by
  have hT := h.1
  have hO := h.2.1
  have hW := h.2.2
  have hn := hW.hns.1
  have hlen := hO.len
  have e : (List.range' 0 24).countP (lbs w (nI s)) = (List.range' 0 π.length).countP (fun i => lbs w (nI s) (pl π i)) := by
    rw [cnt_pl π (fun j => lbs w (nI s) j), hO.cnt]
    refine List.countP_congr fun o _ => ?_
    unfold lbs
    cases lie w o <;> simp
  rw [e] at hk
  rw [F_X6_rollAll, hT.size, forall_eq]
  suffices hh : ∀ y m (c : Nat) (S1 : sSt) (w1 : Wd) (π1 : List Nat), y ≤ π.length → y < m → zC S1 t w1 π1 ns np cm nl → KP t S S1 → y ≤ π1.length → (∀ x, x < y → pl π1 x = pl π x) → dn wfr w w1 (fun j => lbs w (nI s) j = true ∧ ∀ x, x < y → pl π x ≠ j) → (∀ S' π' w1, dn wfr w w1 (fun j => lbs w (nI s) j = true) → zC S' t (wcls w1 s) π' ns np cm nl → KP t S S' → k (nI (c + (List.range' 0 y).countP (fun i => lbs w (nI s) (pl π i)))) S') → B_X6_rollAll_9 m t (nI s) (nI c) (nI y - 1) S1 k from
    hh π.length fuel 0 S w π (by omega) (fuel_gt (by omega)) h KP.rfl (by omega) (fun _ _ => rfl) (dn.z (fun j hj q => by
      have : lie w j = true := by have := q.1; unfold lbs at this; simp only [Bool.and_eq_true] at this; exact this.1
      obtain ⟨x, x1, x2⟩ := hO.pos hj this
      exact q.2 x x1 x2)) (by rw [Nat.zero_add]; exact hk)
  clear hk e
  intro y
  induction y with
  | zero =>
    intro m c S1 w1 π1 hy hm hC hK hl1 hx hd hk
    obtain ⟨m, rfl⟩ : ∃ q, m = q + 1 := ⟨m - 1, by omega⟩
    simp only [B_X6_rollAll_9_s, Bb_X6_rollAll_9, show nI 0 - 1 = (-1 : Int32) from by decide, show (-1 : Int32) < 0 from by decide, true_implies, not_true_eq_false, false_implies, and_true]
    rw [ix_n (by omega) (by omega), F_X5_close]
    intro Sa ea Sb eb
    rw [ea] at eb
    rw [eb]
    have := hk _ π1 w1 (hd.c (fun j _ => ⟨fun q => q.1, fun q => ⟨q, fun x hx => absurd hx (Nat.not_lt_zero x)⟩⟩)) (hC.cls hs) (hK.tr (kc_cls (t := t) (S := S1) (show s < 4 by omega)).1)
    exact this
  | succ y ih =>
    intro m c S1 w1 π1 hy hm hC hK hl1 hx hd hk
    obtain ⟨m, rfl⟩ : ∃ q, m = q + 1 := ⟨m - 1, by omega⟩
    have e1 : nI (y + 1) - 1 = nI y := by rw [show (1 : Int32) = nI 1 from rfl, pk_sub (by omega)]; rfl
    have e2 : nI y + (-1) = nI y - 1 := by rw [Int32.sub_eq_add_neg]
    have hj4 := hO.at (show y < π.length by omega)
    have hnd : ¬ (lbs w (nI s) (pl π y) = true ∧ ∀ x, x < y + 1 → pl π x ≠ pl π y) := fun q => q.2 y (by omega) rfl
    have hpy := hx y (by omega)
    have hm1 : mine w1 (pl π y) (nI s) = lbs w (nI s) (pl π y) := by
      have := lbs_at hd hj4 hnd (nI s)
      rw [← this]
      exact mine_lbs (by rw [← hpy]; exact hC.2.1.la (by omega)) (by omega)
    rw [e1]
    simp only [B_X6_rollAll_9_s, Bb_X6_rollAll_9, B_X6_rollAll_34, nI_pos (show y < 2147483648 by omega), false_implies, true_and, not_false_eq_true, true_implies]
    rw [ix_n (by omega) (by omega), x_isLockedBy hC.1 (by omega), hpy, hm1]
    simp only [b2i_0, Bool.not_eq_false, forall_eq, e2, nI_1]
    refine ⟨fun q => ?_, fun q => ?_⟩
    · refine ih m c S1 w1 π1 (by omega) (by omega) hC hK (by omega) (fun x hx' => hx x (by omega)) (hd.c (fun j _ => ⟨fun z => ⟨z.1, fun x hx' => z.2 x (by omega)⟩, fun z => ⟨z.1, fun x hx' e => ?_⟩⟩)) (by
        rw [range_up, q] at hk; exact hk)
      by_cases c' : x = y
      · rw [← e, c', q] at z; exact absurd z.1 (by decide)
      · exact z.2 x (by omega) e
    · refine x_release hC (by omega) (fun S' h' k' => ?_)
      rw [hpy] at h'
      refine ih m (c + 1) S' _ _ (by omega) (by omega) h' (hK.tr k') (fpi_len (by omega)) (fun x hx' => by rw [fpi_lo hx']; exact hx x (by omega)) (hd.s wfr_lcl hj4 hnd (fun j _ => ⟨fun z => ?_, fun z => ?_⟩)) (by
        rw [range_up, q, if_pos rfl] at hk
        rw [Nat.add_assoc, Nat.add_comm 1]; exact hk)
      · by_cases c' : j = pl π y
        · exact Or.inr c'
        · refine Or.inl ⟨z.1, fun x hx' e => ?_⟩
          by_cases c'' : x = y
          · exact c' (by rw [← e, c''])
          · exact z.2 x (by omega) e
      · rcases z with z | z
        · exact ⟨z.1, fun x hx' => z.2 x (by omega)⟩
        · rw [z]; exact ⟨q, fun x hx' e => by have := hO.inj (by omega) (by omega) e; omega⟩
theorem m_roll49 (hn : ns ≤ 4) {s : Nat} (hs : s < ns) {c : Int32} {k : Int32 → sSt → Prop} (hk : ∀ w1, dn wfr w w1 (fun j => lbs w (nI s) j = true) → k c (sw S (wcls w1 s))) : B_X12_roll_49 fuel (nI s) c 0 (sw S w) k := by
  suffices hh : ∀ r i m w1, i + r = 24 → r < m → dn wfr w w1 (fun j => lbs w (nI s) j = true ∧ j < i) → B_X12_roll_49 m (nI s) c (nI i) (sw S w1) k from
    hh 24 0 fuel w (by omega) (fuel_gt (by omega)) (dn.z (fun j _ q => absurd q.2 (by omega)))
  intro r
  induction r with
  | zero =>
    intro i m w1 hi hm hd
    obtain ⟨m, rfl⟩ : ∃ q, m = q + 1 := ⟨m - 1, by omega⟩
    have e : i = 24 := by omega
    subst e
    simp only [B_X12_roll_49_s, Bb_X12_roll_49, show (24 : Int32) ≤ nI 24 from by decide, true_implies, not_true_eq_false, false_implies, and_true, m_sessAt2]
    rw [ix_n (by omega) (by omega)]
    simp only [forall_eq, sw_i, m_sessAt3]
    rw [ix_n (by omega) (by omega)]
    exact hk w1 (hd.c (fun j hj => ⟨fun q => q.1, fun q => ⟨q, hj⟩⟩))
  | succ r ih =>
    intro i m w1 hi hm hd
    obtain ⟨m, rfl⟩ : ∃ q, m = q + 1 := ⟨m - 1, by omega⟩
    have h : ¬ (24 : Int32) ≤ nI i := nI_ge (b := 24) (by omega) (by omega)
    have hnd : ¬ (lbs w (nI s) i = true ∧ i < i) := fun q => absurd q.2 (by omega)
    have hL := lbs_at hd (show i < 24 by omega) hnd (nI s)
    simp only [B_X12_roll_49_s, Bb_X12_roll_49, B_X12_roll_78, h, false_implies, true_and, not_false_eq_true, true_implies, m_numberOf (show i < 24 by omega), m_lockerOf (show i < 24 by omega), m_frees (show i < 24 by omega), sw_w, forall_eq, nI_1]
    have no : lbs w (nI s) i = false → B_X12_roll_49 m (nI s) c (nI (i + 1)) (sw S w1) k := fun q => ih (i + 1) m w1 (by omega) (by omega) (hd.c (fun j _ => ⟨fun z => ⟨z.1, by omega⟩, fun z => ⟨z.1, by
      have : j ≠ i := fun e => by rw [e, q] at z; exact absurd z.1 (by decide)
      omega⟩⟩))
    refine ⟨fun c1 => no ?_, fun c1 => ⟨fun c2 => no ?_, fun c2 => ?_⟩⟩
    · rw [← hL]; unfold lbs lie; rw [c1]; rfl
    · rw [← hL]; unfold lbs; simp [c2]
    · have q : lbs w (nI s) i = true := by rw [← hL]; unfold lbs lie; simp [c1, c2]
      exact ih (i + 1) m _ (by omega) (by omega) (hd.s wfr_lcl (by omega) hnd (fun j _ => ⟨fun z => by
        by_cases e : j = i
        · exact Or.inr e
        · exact Or.inl ⟨z.1, by omega⟩, fun z => by
        rcases z with z | z
        · exact ⟨z.1, by omega⟩
        · rw [z]; exact ⟨q, by omega⟩⟩))
theorem WS.roll (h : WS w ns) (hn : ns ≤ 4) {s : Nat} (hss : s < ns) {w1 : Wd} (hd : dn wfr w w1 (fun j => lbs w (nI s) j = true)) : WS (wcls w1 s) ns := by
  intro s' k j hs' hk hj hsv hf
  by_cases c : s' = s
  · rw [c, wcls_3] at hsv; exact absurd hsv (nI_nlt (b := 0) (by omega) (by omega))
  · rw [wcls_out (by omega) (by omega), hd.1 _ (by omega)] at hsv
    rw [wcls_out (by unfold svp; omega) (by unfold svp; omega), hd.1 _ (by unfold svp; omega)] at hf
    obtain ⟨g1, g2, gv, gm⟩ := h s' k j hs' hk hj hsv hf
    have hnd : ¬ lbs w (nI s) j = true := by
      unfold lbs
      rw [g1, g2]
      simp only [Bool.true_and, decide_eq_true_eq]
      intro q; exact c ((nI_eq (by omega) (by omega)).mp q)
    refine ⟨?_, ?_, gv.c (fun f hf => by rw [wcls_out (by unfold svp; omega) (by unfold svp; omega), hd.1 _ (by unfold svp; omega)]), fun k' q1 q2 q3 => ?_⟩
    · unfold lie num at *
      rw [wcls_out (by omega) (by omega)]
      have := hd.at hj hnd 0 (by omega)
      rw [Nat.add_zero] at this
      rw [this]; exact g1
    · unfold lkr at *
      rw [wcls_out (by omega) (by omega), hd.at hj hnd 2 (by omega)]; exact g2
    · rw [wcls_out (by omega) (by omega), hd.1 _ (by omega)] at q3
      rw [wcls_out (by unfold svp; omega) (by unfold svp; omega), hd.1 _ (by unfold svp; omega)]
      exact gm k' q1 q2 q3
theorem cs_10 (h : Inv n Sc Sm) {a1 a2 a3 a4 a5 : Int32} {o : Int64} : CS_10 a1 a2 a3 a4 a5 Sc Sm o (fun S1 S2 _ => Inv (n + 1) S1 S2) := by
  obtain ⟨l, sp, π, ns, np, cm, nl, hR, hB, hc⟩ := h
  obtain ⟨w, hw⟩ : ∃ w, w = Sm.1 1 0 := ⟨_, rfl⟩
  have hs : Sm = sw Sm w := by rw [hw, sw_s]
  rw [← hw] at hB
  have hW := hB.2.2.1
  have hn := hW.hns.1
  have m0 : MK Sm (uI Sm 0 0 0 0) := MK.rfl.f (by omega)
  show FW_roll a1 Sc o (fun r1 S2 o3 => F_X12_roll a1 Sm (tl n r1 S2 o3))
  unfold FW_roll F_X11_roll
  refine x_needSession hR.2.1 hB (fun s hs' ha => ?_) (fun hno => ⟨fun _ => ?_, fun q => absurd rfl q⟩)
  · rw [ha]
    refine x_settleOpen hR.2.1 hB hs' (fun hop => ?_) (fun hop => ?_)
    · rw [show (uI Sc 0 0 7 0).2 0 0 4 = l from hR.2.1]
      refine x_rollAll (h := (⟨hB.f0.1, hB.2.1, hB.2.2.1⟩ : zC (uI Sc 0 0 7 0) l w π ns np cm nl)) hs' (fun S' π' w1 hd hC hK => ?_)
      show F_X12_roll (nI s) Sm (tl n 0 S' _)
      rw [hs, F_X12_roll]
      rintro S1 rfl
      rw [sw_c (by omega)]
      refine m_needS' (fun q => absurd (hasS_of hW hs') (by rw [q]; decide)) (fun _ => ?_)
      rw [m_isOpen (by omega), sw_w, hop]
      refine ⟨fun q => absurd q (by decide), fun _ => ?_⟩
      rw [B_X12_roll_32, m_refuses, if_pos rfl]
      refine ⟨fun _ => ?_, fun q => absurd rfl q⟩
      rw [m_lockedBy]
      refine m_roll49 hn hs' (fun w2 hd2 => ?_)
      rw [hd2.u hd]
      exact tl_ok (by rw [uI_nc (by omega)]; exact uI_at) (inv_upd (hR.why 0) ⟨hC.1, hC.2.1, hC.2.2, hB.2.2.2.roll hn hs' hd⟩ (c_le hc) hK (by rw [hK.2 14 sp (by have := hR.1; omega)]) mk_well) rfl
    · refine ⟨fun q => absurd q (by decide), fun _ => ⟨fun _ => ?_, fun q => absurd rfl q⟩⟩
      show F_X12_roll (nI s) Sm (tl n 2 _ _)
      rw [hs, F_X12_roll]
      rintro S1 rfl
      rw [sw_c (by omega)]
      refine m_needS' (fun q => absurd (hasS_of hW hs') (by rw [q]; decide)) (fun _ => ?_)
      rw [m_isOpen (by omega), sw_w, hop]
      refine ⟨fun _ => ?_, fun q => absurd rfl q⟩
      rw [B_X12_roll_32, m_refuses, if_neg (by decide)]
      exact ⟨fun q => absurd q (by decide), fun _ => tl_ex uI_at (by decide) (inv_why hR hB hc mk_refuse)⟩
  · show F_X12_roll a1 Sm (tl n 1 Sc o)
    rw [hs, F_X12_roll]
    rintro S1 rfl
    rw [sw_c (by omega)]
    exact m_needS' (fun _ S' g1 g2 => tl_ex g1 (by decide) (inv_same hR hB hc (m0.tr g2))) (fun q => absurd hno (by rw [q]; decide))
/-! sweep -/
def usw (w : Wd) (j : Nat) : Wd := va_up w (21 + 47 * j) (-1)
theorem usw_lcl : lcl usw := ⟨fun w j x hx => up_ne (by omega), fun w w1 j hj h1 h2 x q1 q2 => by unfold usw va_up; rw [h2 x q1 q2]⟩
def swp (w : Wd) (j : Nat) : Bool := isin w j && decide (lkr w j = -1) && decide (w (21 + 47 * j + 3 + 3) = 2)
theorem swp_at {u : Wd → Nat → Wd} {w1 : Wd} {D : Nat → Prop} (h : dn u w w1 D) {j : Nat} (hj : j < 24) (hd : ¬ D j) : swp w1 j = swp w j := by
  unfold swp isin num lkr
  rw [h.at0 hj hd, h.at hj hd 1 (by omega), h.at hj hd 2 (by omega), Nat.add_assoc, h.at hj hd (3 + 3) (by omega)]
theorem x_sweepDone (h : zC S t w π ns np cm nl) {k : Int32 → sSt → Prop} (hk : ∀ S1 π' w1, dn usw w w1 (fun j => swp w j = true) → zC S1 t w1 π' ns np cm nl → KP t S S1 → k (nI ((List.range' 0 24).countP (swp w))) (uI S1 13 t 15 (S1.1 13 t 15 + nI ((List.range' 0 24).countP (swp w))))) : F_X6_sweepDone t S k := by
  have hT := h.1
  have hO := h.2.1
  have hW := h.2.2
  have hlen := hO.len
  have e : (List.range' 0 24).countP (swp w) = (List.range' 0 π.length).countP (fun i => swp w (pl π i)) := by
    rw [cnt_pl π (fun j => swp w j), hO.cnt]
    refine List.countP_congr fun o _ => ?_
    constructor
    · intro q
      have : isin w o = true := by simp only [swp, Bool.and_eq_true] at q; exact q.1.1
      rw [isin_lie this, q]; rfl
    · intro q; simp only [Bool.and_eq_true] at q; exact q.2
  rw [e] at hk
  rw [F_X6_sweepDone, hT.size, forall_eq, forall_eq]
  suffices hh : ∀ y m (c : Nat) (S1 : sSt) (w1 : Wd) (π1 : List Nat), y ≤ π.length → y < m → zC S1 t w1 π1 ns np cm nl → KP t S S1 → y ≤ π1.length → π1.length + c = π.length → (∀ x, x < y → pl π1 x = pl π x) → dn usw w w1 (fun j => swp w j = true ∧ ∀ x, x < y → pl π x ≠ j) → (∀ S1 π' w1, dn usw w w1 (fun j => swp w j = true) → zC S1 t w1 π' ns np cm nl → KP t S S1 → k (nI (c + (List.range' 0 y).countP (fun i => swp w (pl π i)))) (uI S1 13 t 15 (S1.1 13 t 15 + nI (c + (List.range' 0 y).countP (fun i => swp w (pl π i)))))) → B_X6_sweepDone_12 m t (nI π.length) (nI y - 1) S1 k from
    hh π.length fuel 0 S w π (by omega) (fuel_gt (by omega)) h KP.rfl (by omega) (by omega) (fun _ _ => rfl) (dn.z (fun j hj q => by
      have : isin w j = true := by have := q.1; unfold swp at this; simp only [Bool.and_eq_true] at this; exact this.1.1
      obtain ⟨x, x1, x2⟩ := hO.pos hj (isin_lie this)
      exact q.2 x x1 x2)) (by rw [Nat.zero_add]; exact hk)
  clear hk e
  intro y
  induction y with
  | zero =>
    intro m c S1 w1 π1 hy hm hC hK hl1 hlc hx hd hk
    obtain ⟨m, rfl⟩ : ∃ q, m = q + 1 := ⟨m - 1, by omega⟩
    have ec : nI π.length - nI π1.length = nI c := by rw [pk_sub (by omega)]; congr 1; omega
    simp only [B_X6_sweepDone_12_s, Bb_X6_sweepDone_12, show nI 0 - 1 = (-1 : Int32) from by decide, show (-1 : Int32) < 0 from by decide, true_implies, not_true_eq_false, false_implies, and_true, hC.1.size, ec]
    rintro S4 rfl
    rw [uI_nc (by omega), hC.1.size, ec]
    have := hk S1 π1 w1 (hd.c (fun j _ => ⟨fun q => q.1, fun q => ⟨q, fun x hx => absurd hx (Nat.not_lt_zero x)⟩⟩)) hC hK
    exact this
  | succ y ih =>
    intro m c S1 w1 π1 hy hm hC hK hl1 hlc hx hd hk
    obtain ⟨m, rfl⟩ : ∃ q, m = q + 1 := ⟨m - 1, by omega⟩
    have e1 : nI (y + 1) - 1 = nI y := by rw [show (1 : Int32) = nI 1 from rfl, pk_sub (by omega)]; rfl
    have e2 : nI y + (-1) = nI y - 1 := by rw [Int32.sub_eq_add_neg]
    have hj4 := hO.at (show y < π.length by omega)
    have hnd : ¬ (swp w (pl π y) = true ∧ ∀ x, x < y + 1 → pl π x ≠ pl π y) := fun q => q.2 y (by omega) rfl
    have hpy := hx y (by omega)
    have hm1 := swp_at hd hj4 hnd
    have hla : lie w1 (pl π y) = true := by rw [← hpy]; exact hC.2.1.la (by omega)
    have q := sto_is hC.2.2 hj4 hla
    have hlk := x_lkr hC.1 (show y < π1.length by omega)
    rw [hpy] at hlk
    rw [e1]
    simp only [B_X6_sweepDone_12_s, Bb_X6_sweepDone_12, B_X6_sweepDone_47, nI_pos (show y < 2147483648 by omega), false_implies, true_and, not_false_eq_true, true_implies]
    rw [ix_n (by omega) (by omega), hlk]
    simp only [forall_eq, e2]
    have no : swp w (pl π y) = false → B_X6_sweepDone_12 m t (nI π.length) (nI y - 1) S1 k := fun q => by
      refine ih m c S1 w1 π1 (by omega) (by omega) hC hK (by omega) hlc (fun x hx' => hx x (by omega)) (hd.c (fun j _ => ⟨fun z => ⟨z.1, fun x hx' => z.2 x (by omega)⟩, fun z => ⟨z.1, fun x hx' e => ?_⟩⟩)) (by
        rw [range_up, q] at hk; exact hk)
      by_cases c' : x = y
      · rw [← e, c', q] at z; exact absurd z.1 (by decide)
      · exact z.2 x (by omega) e
    refine ⟨fun c1 => no ?_, fun c1 => ?_⟩
    · rw [← hm1]; unfold swp; simp [c1]
    · have hin : isin w1 (pl π y) = true := by
        cases z : isin w1 (pl π y)
        · rcases hC.2.2.job (pl π y) hj4 with g | ⟨g1, g2, g3, -⟩
          · exact absurd g (lie_n hla)
          · rcases g3 with g3 | g3
            · rw [q.mpr z] at g3; exact absurd g3 (by decide)
            · exact absurd c1 g3
        · rfl
      have hv := (hC.1.job y (by omega)).1.2.2.2.1 (by rw [hpy]; exact isin_1 hin)
      rw [hpy] at hv
      have h3 : S1.1 22 (6 * S1.2 14 t y) 0 = w1 (21 + 47 * pl π y + 3 + 3) := hv 3 (by omega)
      rw [h3]
      refine ⟨fun c2 => no ?_, fun c2 => ?_⟩
      · rw [← hm1]; unfold swp; simp [c2]
      · have q : swp w (pl π y) = true := by rw [← hm1]; unfold swp; simp [hin, c1, c2]
        refine x_remove (w' := usw w1 (pl π y)) hC (show y < π1.length by omega) (fun x hx' => ?_) ?_ (fun _ _ _ => rfl) rfl (fun S' h' k' => ?_)
        · exact usw_lcl.1 _ _ _ (by rw [← hpy]; exact hx')
        · rw [hpy]; exact up_eq
        · have hle := len_erase (show y < π1.length by omega)
          refine ih m (c + 1) S' _ _ (by omega) (by omega) h' (hK.tr k') (by omega) (by omega) (fun x hx' => by rw [pl_erase, if_pos hx']; exact hx x (by omega)) (hd.s usw_lcl hj4 hnd (fun j _ => ⟨fun z => ?_, fun z => ?_⟩)) (by
            rw [range_up, q, if_pos rfl] at hk
            rw [Nat.add_assoc, Nat.add_comm 1]; exact hk)
          · by_cases c' : j = pl π y
            · exact Or.inr c'
            · refine Or.inl ⟨z.1, fun x hx' e => ?_⟩
              by_cases c'' : x = y
              · exact c' (by rw [← e, c''])
              · exact z.2 x (by omega) e
          · rcases z with z | z
            · exact ⟨z.1, fun x hx' => z.2 x (by omega)⟩
            · rw [z]; exact ⟨q, fun x hx' e => by have := hO.inj (by omega) (by omega) e; omega⟩
theorem m_sweep9 {k : Int32 → sSt → Prop} (hk : ∀ w1, dn usw w w1 (fun j => swp w j = true) → k (nI ((List.range' 0 24).countP (swp w))) (sw S (va_up w1 8 (w1 8 + nI ((List.range' 0 24).countP (swp w)))))) : B_X12_sweep_9 fuel 0 0 (sw S w) k := by
  suffices hh : ∀ r i m (c : Nat) w1, i + r = 24 → r < m → dn usw w w1 (fun j => swp w j = true ∧ j < i) → c + (List.range' i r).countP (swp w) = (List.range' 0 24).countP (swp w) → B_X12_sweep_9 m (nI c) (nI i) (sw S w1) k from
    hh 24 0 fuel 0 w (by omega) (fuel_gt (by omega)) (dn.z (fun j _ q => absurd q.2 (by omega))) (by omega)
  intro r
  induction r with
  | zero =>
    intro i m c w1 hi hm hd hcn
    obtain ⟨m, rfl⟩ : ∃ q, m = q + 1 := ⟨m - 1, by omega⟩
    have e : i = 24 := by omega
    subst e
    have ec : c = (List.range' 0 24).countP (swp w) := by simpa using hcn
    simp only [B_X12_sweep_9_s, Bb_X12_sweep_9, show (24 : Int32) ≤ nI 24 from by decide, true_implies, not_true_eq_false, false_implies, and_true, sw_w, forall_eq, sw_i]
    rw [ec]
    exact hk w1 (hd.c (fun j hj => ⟨fun q => q.1, fun q => ⟨q, hj⟩⟩))
  | succ r ih =>
    intro i m c w1 hi hm hd hcn
    obtain ⟨m, rfl⟩ : ∃ q, m = q + 1 := ⟨m - 1, by omega⟩
    have h : ¬ (24 : Int32) ≤ nI i := nI_ge (b := 24) (by omega) (by omega)
    have hnd : ¬ (swp w i = true ∧ i < i) := fun q => absurd q.2 (by omega)
    have hL := swp_at hd (show i < 24 by omega) hnd
    rw [List.range'_succ, List.countP_cons] at hcn
    simp only [B_X12_sweep_9_s, Bb_X12_sweep_9, B_X12_sweep_65, h, false_implies, true_and, not_false_eq_true, true_implies, m_isIn (show i < 24 by omega), m_lockerOf (show i < 24 by omega), m_jobAt3, m_jobAt0, sw_w, forall_eq, nI_1, na_3, b2i_0, Bool.not_eq_false]
    rw [ix_n (by omega) (by omega), ix_n (by omega) (by omega)]
    simp only [sw_i, sw_w]
    have no : swp w i = false → B_X12_sweep_9 m (nI c) (nI (i + 1)) (sw S w1) k := fun q => ih (i + 1) m c w1 (by omega) (by omega) (hd.c (fun j _ => ⟨fun z => ⟨z.1, by omega⟩, fun z => ⟨z.1, by
      have : j ≠ i := fun e => by rw [e, q] at z; exact absurd z.1 (by decide)
      omega⟩⟩)) (by rw [q] at hcn; simpa using hcn)
    refine ⟨fun c0 => no ?_, fun c0 => ⟨fun c1 => no ?_, fun c1 => ⟨fun c2 => ?_, fun c2 => no ?_⟩⟩⟩
    · rw [← hL]; unfold swp; rw [c0]; rfl
    · rw [← hL]; unfold swp; simp [c1]
    · have q : swp w i = true := by rw [← hL]; unfold swp; simp [c0, c1, c2]
      exact ih (i + 1) m (c + 1) _ (by omega) (by omega) (hd.s usw_lcl (by omega) hnd (fun j _ => ⟨fun z => by
        by_cases e : j = i
        · exact Or.inr e
        · exact Or.inl ⟨z.1, by omega⟩, fun z => by
        rcases z with z | z
        · exact ⟨z.1, by omega⟩
        · rw [z]; exact ⟨q, by omega⟩⟩)) (by rw [q, if_pos rfl] at hcn; omega)
    · rw [← hL]; unfold swp; simp [c2]
theorem WS.sweep (h : WS w ns) (hn : ns ≤ 4) {w1 : Wd} (hd : dn usw w w1 (fun j => swp w j = true)) : WS w1 ns := by
  intro s' k j hs' hk hj hsv hf
  rw [hd.1 _ (by omega)] at hsv
  rw [hd.1 _ (by unfold svp; omega)] at hf
  obtain ⟨g1, g2, gv, gm⟩ := h s' k j hs' hk hj hsv hf
  have hnd : ¬ swp w j = true := by
    unfold swp
    rw [g2]
    simp [ni_m1 (show s' < 2147483648 by omega)]
  refine ⟨?_, ?_, gv.c (fun f hf => hd.1 _ (by unfold svp; omega)), fun k' q1 q2 q3 => ?_⟩
  · unfold lie num at *
    have := hd.at hj hnd 0 (by omega)
    rw [Nat.add_zero] at this
    rw [this]; exact g1
  · unfold lkr at *
    rw [hd.at hj hnd 2 (by omega)]; exact g2
  · rw [hd.1 _ (by omega)] at q3
    rw [hd.1 _ (by unfold svp; omega)]
    exact gm k' q1 q2 q3
theorem cs_19 (h : Inv n Sc Sm) {a1 a2 a3 a4 a5 : Int32} {o : Int64} : CS_19 a1 a2 a3 a4 a5 Sc Sm o (fun S1 S2 _ => Inv (n + 1) S1 S2) := by
  obtain ⟨l, sp, π, ns, np, cm, nl, hR, hB, hc⟩ := h
  obtain ⟨w, hw⟩ : ∃ w, w = Sm.1 1 0 := ⟨_, rfl⟩
  have hs : Sm = sw Sm w := by rw [hw, sw_s]
  rw [← hw] at hB
  have hW := hB.2.2.1
  have hn := hW.hns.1
  have m0 : MK Sm (uI Sm 0 0 0 0) := MK.rfl.f (by omega)
  show F_X11_sweep Sc (fun r1 S2 => F_X12_sweep Sm (tq n S2 r1))
  rw [F_X11_sweep, hR.2.1]
  refine x_sweepDone (h := ⟨hB.1, hB.2.1, hB.2.2.1⟩) (fun S1 π' w1 hd hC hK => ?_)
  rw [hs, F_X12_sweep]
  rintro S2 rfl
  rw [sw_c (by omega)]
  refine m_sweep9 (fun w2 hd2 => ?_)
  rw [hd2.u hd]
  have hB1 : zB S1 l w1 π' ns np cm nl := ⟨hC.1, hC.2.1, hC.2.2, hB.2.2.2.sweep hn hd⟩
  have e15 : S1.1 13 l 15 = w1 8 := hC.1.sca.1 8 (by omega)
  rw [e15]
  exact tq_ok (inv_upd hR (hB1.sca (f := 8) (by omega) _) (c_le hc) (hK.i (by unfold ow; omega)) (hK.2 14 sp (by have := hR.1; omega)) m0) rfl
end CS
end PU35
