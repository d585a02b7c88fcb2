section PU57
/-! THE CLOCK GOES ON, OR JUMPS -/
def cap (x : Int32) : Int32 := if x < 9999 then x else 9999
def wck (w : Wd) : Wd := va_up (va_up w 3 (cap (w 3 + 1))) 4 (cap (va_up w 3 (cap (w 3 + 1)) 4 + 1))
def wj1 (w : Wd) (a : Int32) : Wd := va_up w 4 (if 0 < cap (w 4 + a) then cap (w 4 + a) else 0)
def wtk (np : Nat) : Nat → Wd → Wd × Nat
  | 0, w => (w, 0)
  | r + 1, w => ((wtk np r (wal np 0 (wck w)).1).1, (wal np 0 (wck w)).2 + (wtk np r (wal np 0 (wck w)).1).2)
section CS
variable {Sc Sc' Sm S' S : sSt} {l sp n t : Nat} {w w' : Wd} {π π' : List Nat} {ns np cm nl ns' np' cm' nl' B p j M f : Nat} {q : Int32}
theorem cap_c (x : Int32) : (if 9999 < x then 9999 else x) = cap x := by
  unfold cap
  by_cases c : x < 9999
  · rw [if_pos c, if_neg (fun z => absurd (Int32.lt_trans c z) Int32.lt_irrefl)]
  · rw [if_neg c]
    by_cases d : (9999 : Int32) < x
    · rw [if_pos d]
    · rw [if_neg d]
      exact (Int32.le_antisymm (Int32.not_lt.mp d) (Int32.not_lt.mp c))
theorem cap_v {m : Nat} (hm : m ≤ 9999) : ∃ y, y ≤ 9999 ∧ cap (nI m + 1) = nI y := by
  unfold cap
  rw [nI_1]
  by_cases c : nI (m + 1) < 9999
  · rw [if_pos c]
    exact ⟨m + 1, by have := (nI_ltI (a := m + 1) (b := 9999) (by omega) (by omega)).mp c; omega, rfl⟩
  · rw [if_neg c]; exact ⟨9999, by omega, rfl⟩
theorem cap_0 (x : Int32) : ∃ y, y ≤ 9999 ∧ (if 0 < cap x then cap x else 0) = nI y := by
  by_cases c : 0 < cap x
  · rw [if_pos c]
    have h9 : cap x ≤ 9999 := by
      unfold cap
      by_cases d : x < 9999
      · rw [if_pos d]; exact Int32.le_of_lt d
      · rw [if_neg d]; exact Int32.le_refl _
    exact nI_of2 (M := 9999) (n := 9999) rfl (fun z => absurd (Int32.lt_trans c z) Int32.lt_irrefl) h9
  · rw [if_neg c]; exact ⟨0, by omega, rfl⟩
theorem WF.clk (h : WF w ns np cm nl) (hf : f = 3 ∨ f = 4) (hM : M ≤ 9999) : WF (va_up w f (nI M)) ns np cm nl := by
  have hnp := h.hnp.1
  have hn := h.hns.1
  refine ⟨by rw [up_ne (by omega)]; exact h.edt, ⟨h.hns.1, by rw [up_ne (by omega)]; exact h.hns.2⟩, ⟨h.hnp.1, by rw [up_ne (by omega)]; exact h.hnp.2⟩, ⟨h.hcm.1, by rw [up_ne (by omega)]; exact h.hcm.2⟩, ⟨h.hnl.1, by rw [up_ne (by omega)]; exact h.hnl.2⟩, fun i hi => (h.job i hi).c (fun x _ _ => up_ne (by omega)), fun a b ha hb hl he => ?_, fun s' hs' => (h.ses s' hs').c (fun x _ _ => up_ne (by omega)), fun p' hp' => (h.pln p' hp').c (fun x _ _ => up_ne (by omega)), ?_, ?_, ?_, ?_, ?_, ?_, fun g hg => ?_⟩
  · have en : ∀ i, i < 24 → num (va_up w f (nI M)) i = num w i := fun i hi => up_ne (by omega)
    rw [en a ha, en b hb] at he
    refine h.one a b ha hb ?_ he
    unfold lie at *; rw [← en a ha]; exact hl
  · by_cases c : f = 3
    · rw [c, up_eq]; exact ⟨M, hM, rfl⟩
    · rw [up_ne (by omega)]; exact h.mono
  · by_cases c : f = 4
    · rw [c, up_eq]; exact ⟨M, hM, rfl⟩
    · rw [up_ne (by omega)]; exact h.wall
  · rw [up_ne (by omega)]; exact h.base
  · rw [up_ne (by omega)]; exact h.cap
  · rw [up_ne (by omega)]; exact h.jit
  · rw [up_ne (by omega)]; exact h.lim
  · rw [up_ne (by omega)]; exact h.par g hg
theorem zB.clk (h : zB S t w π ns np cm nl) (hf : f = 3 ∨ f = 4) (hM : M ≤ 9999) : zB (uI S 13 t (7 + f) (nI M)) t (va_up w f (nI M)) π ns np cm nl := by
  obtain ⟨hT, hO, hW, hZ⟩ := h
  have hn := hW.hns.1
  refine ⟨⟨?_, hT.ref, hT.job.c hO hn rfl (fun i _ => uI_other (by omega)) (fun i _ d _ => uI_other (by omega)) (fun x _ _ => up_ne (by omega)) (fun s _ => up_ne (by omega)) (fun x _ _ => up_ne (by omega)), ⟨fun g hg => ?_, fun g hg => ?_, fun g hg => ?_⟩, hT.ses.c hn (fun s _ => uI_other (by omega)) (fun s _ k _ _ => uI_other (by omega)) (fun x _ _ => up_ne (by omega)), hT.pln.c hW.hnp.1 (fun p _ => uI_other (by omega)) (fun x _ _ => up_ne (by omega)), hT.log.c hW.hnl.1 (uI_other (by omega)) (uI_other (by omega)) (fun x _ _ => up_ne (by omega))⟩, hO.c (fun j _ => up_ne (by omega)), hW.clk hf hM, hZ.c hn (fun j _ => ⟨up_ne (by omega), up_ne (by omega)⟩) (fun s _ => up_ne (by omega)) (fun x _ _ => up_ne (by omega))⟩
  · rw [uI_nc (by omega)]; exact hT.size
  · by_cases c : g = f
    · rw [c, up_eq, uI_at]
    · rw [up_ne c, ← hT.sca.1 g hg]; exact uI_nc (by omega)
  · rw [up_ne (by omega), ← hT.sca.2.1 g hg, uI_other (by omega)]
  · rw [up_ne (by omega), ← hT.sca.2.2 g hg, uI_other (by omega)]
theorem zX.clk (h : zX S t w ns np nl B) (hf : f = 3 ∨ f = 4) (hM : M ≤ 9999) : zX (uI S 13 t (7 + f) (nI M)) t (va_up w f (nI M)) ns np nl B := by
  obtain ⟨π, cm, h, hc⟩ := h
  exact ⟨π, cm, h.clk hf hM, hc⟩
theorem OW.clk (h : OW w ns np nl B) (hf : f = 3 ∨ f = 4) (hM : M ≤ 9999) : OW (va_up w f (nI M)) ns np nl B := by
  obtain ⟨π, cm, hO, hW, hZ, hc⟩ := h
  have hn := hW.hns.1
  exact ⟨π, cm, hO.c (fun j _ => up_ne (by omega)), hW.clk hf hM, hZ.c hn (fun j _ => ⟨up_ne (by omega), up_ne (by omega)⟩) (fun s _ => up_ne (by omega)) (fun x _ _ => up_ne (by omega)), hc⟩
theorem OW.all (hB : B < 999000) : ∀ r p w, p + r = np → OW w ns np nl B → OW (wal r p w).1 ns np nl B := by
  intro r
  induction r with
  | zero => intro p w _ h; exact h
  | succ r ih => intro p w hp h; rw [wal]; exact ih (p + 1) _ (by omega) (h.lo hB (by omega))
/-- both clocks' next values -/
theorem clk2 (h : OW w ns np nl B) : ∃ a b, a ≤ 9999 ∧ b ≤ 9999 ∧ cap (w 3 + 1) = nI a ∧ cap (w 4 + 1) = nI b ∧ wck w = va_up (va_up w 3 (nI a)) 4 (nI b) := by
  obtain ⟨cm, hW⟩ := h.wf
  obtain ⟨m, m1, m2⟩ := hW.mono
  obtain ⟨v, v1, v2⟩ := hW.wall
  obtain ⟨a, a1, a2⟩ := cap_v m1
  obtain ⟨b, b1, b2⟩ := cap_v v1
  refine ⟨a, b, a1, b1, by rw [m2]; exact a2, by rw [v2]; exact b2, ?_⟩
  unfold wck
  rw [up_ne (show 4 ≠ 3 by omega), v2, b2, m2, a2]
theorem OW.c1 (h : OW w ns np nl B) : OW (wck w) ns np nl B := by
  obtain ⟨a, b, a1, b1, -, -, e⟩ := clk2 h
  rw [e]
  exact (h.clk (Or.inl rfl) a1).clk (Or.inr rfl) b1
theorem wtk_hi {x : Nat} (hx : 1289 ≤ x ∨ x = 0 ∨ x = 1) (hnp : np ≤ 4) : ∀ r w, (wtk np r w).1 x = w x := by
  intro r
  induction r with
  | zero => intro w; rfl
  | succ r ih =>
    intro w
    rw [wtk]
    refine (ih _).trans ((wal_hi (by omega) np 0 _ (by omega)).trans ?_)
    unfold wck
    rw [up_ne (by omega), up_ne (by omega)]
theorem wtk_6 : ∀ r w, (wtk np r w).1 6 = w 6 + nI (wtk np r w).2 := by
  intro r
  induction r with
  | zero => intro w; exact (Int32.add_zero _).symm
  | succ r ih =>
    intro w
    rw [wtk]
    show (wtk np r _).1 6 = w 6 + nI (_ + _)
    have e : wck w 6 = w 6 := by unfold wck; rw [up_ne (by omega), up_ne (by omega)]
    rw [ih _, wal_6, e, Int32.add_assoc, nI_add]
theorem x_tick (hB : B < 999000) {N : Nat} (hN : N ≤ 60) {a2 : Int32} {k : Int32 → sSt → Prop} : ∀ r i m (S : sSt) (w : Wd), i + r = N → r < m → zX S t w ns np nl B → (∀ S', zX S' t (wtk np r w).1 ns np nl B → KP t S S' → S'.2 = S.2 → k ((wtk np r w).1 6 - a2) S') → B_X6_tickTimes_7 m t (nI N) a2 (nI i) S k := by
  intro r
  induction r with
  | zero =>
    intro i m S w hi hm h hk
    obtain ⟨m, rfl⟩ : ∃ z, m = z + 1 := ⟨m - 1, by omega⟩
    obtain ⟨π, cm, hb, -⟩ := id h
    have e13 : S.1 13 t 13 = w 6 := hb.1.sca.1 6 (by omega)
    simp only [B_X6_tickTimes_7_s, Bb_X6_tickTimes_7, e13]
    exact ⟨fun _ => hk S h KP.rfl rfl, fun z => absurd (nI_le (show N ≤ i by omega) (by omega)) z⟩
  | succ r ih =>
    intro i m S w hi hm h hk
    obtain ⟨m, rfl⟩ : ∃ z, m = z + 1 := ⟨m - 1, by omega⟩
    obtain ⟨π, cm, hb, -⟩ := id h
    have hnp := hb.2.2.1.hnp.1
    have e10 : S.1 13 t 10 = w 3 := hb.1.sca.1 3 (by omega)
    have e11 : S.1 13 t 11 = w 4 := hb.1.sca.1 4 (by omega)
    obtain ⟨a, b, a1, b1, a2', b2', e⟩ := clk2 h.ow
    simp only [B_X6_tickTimes_7_s, Bb_X6_tickTimes_7]
    refine ⟨fun z => absurd z (nI_ge (show i < N by omega) (by omega)), fun _ => ?_⟩
    rw [cap_c, e10, a2']
    rintro S3 rfl
    rw [cap_c, uI_nc (by omega), e11, b2']
    rintro S4 rfl
    have h4 := (h.clk (f := 3) (Or.inl rfl) a1).clk (f := 4) (Or.inr rfl) b1
    rw [← e] at h4
    rw [F_X6_lookAtSchedules]
    refine x_lookAll hB np 0 fuel _ _ (by omega) (fuel_gt (by omega)) h4 (fun S6 h6 k6 r6 => ?_)
    rintro x7 rfl
    rw [nI_1]
    exact ih (i + 1) m S6 _ (by omega) (by omega) h6 (fun S' g1 g2 g3 => hk S' g1 (((KP.rfl.i (by unfold ow; omega)).i (by unfold ow; omega)).tr (k6.tr g2)) (g3.trans r6))
theorem m_goesOn (hB : B < 999000) {N : Nat} (hN : N ≤ 60) {k : Int32 → sSt → Prop} : ∀ r i c m (w : Wd), i + r = N → r < m → OW w ns np nl B → k (nI (c + (wtk np r w).2)) (sw S (wtk np r w).1) → B_X12_goesOn_4 m (nI N) (nI c) (nI i) (sw S w) k := by
  intro r
  induction r with
  | zero =>
    intro i c m w hi hm h hk
    obtain ⟨m, rfl⟩ : ∃ z, m = z + 1 := ⟨m - 1, by omega⟩
    simp only [B_X12_goesOn_4_s, Bb_X12_goesOn_4]
    exact ⟨fun _ => hk, fun z => absurd (nI_le (show N ≤ i by omega) (by omega)) z⟩
  | succ r ih =>
    intro i c m w hi hm h hk
    obtain ⟨m, rfl⟩ : ∃ z, m = z + 1 := ⟨m - 1, by omega⟩
    obtain ⟨cm, hW⟩ := h.wf
    have hnp := hW.hnp.1
    simp only [B_X12_goesOn_4_s, Bb_X12_goesOn_4]
    refine ⟨fun z => absurd z (nI_ge (show i < N by omega) (by omega)), fun _ => ?_⟩
    rintro S2 rfl
    rw [sw_i, sw_w]
    rintro S3 rfl
    rw [sw_i, sw_w]
    show F_X12_allLook (sw S (wck w)) _
    rw [F_X12_allLook]
    refine m_allLook hB np 0 0 fuel _ (by omega) (fuel_gt (by omega)) h.c1 ?_
    simp only [forall_eq, nI_1, nI_add, Nat.zero_add]
    rw [wtk] at hk
    exact ih (i + 1) _ m _ (by omega) (by omega) (OW.all hB np 0 _ (by omega) h.c1) (by rw [Nat.add_assoc]; exact hk)
theorem x_jumpBy (hB : B < 999000) (h : zX S t w ns np nl B) {a : Int32} {k : Int32 → sSt → Prop} (hk : ∀ S', zX S' t (wal np 0 (wj1 w a)).1 ns np nl B → KP t S S' → S'.2 = S.2 → k ((wal np 0 (wj1 w a)).1 6 - w 6) S') : F_X6_jumpBy t a S k := by
  obtain ⟨π, cm, hb, -⟩ := id h
  have hnp := hb.2.2.1.hnp.1
  have e11 : S.1 13 t 11 = w 4 := hb.1.sca.1 4 (by omega)
  have e13 : S.1 13 t 13 = w 6 := hb.1.sca.1 6 (by omega)
  obtain ⟨y, y1, y2⟩ := cap_0 (w 4 + a)
  rw [F_X6_jumpBy, e13, e11]
  rintro x1 rfl
  rw [cap_c, y2]
  rintro S2 rfl
  have h2 := h.clk (f := 4) (Or.inr rfl) y1
  have e : wj1 w a = va_up w 4 (nI y) := by unfold wj1; rw [y2]
  rw [← e] at h2
  rw [F_X6_lookAtSchedules]
  refine x_lookAll hB np 0 fuel _ _ (by omega) (fuel_gt (by omega)) h2 (fun S6 h6 k6 r6 => ?_)
  obtain ⟨π', cm', hb', -⟩ := id h6
  have e13' : S6.1 13 t 13 = (wal np 0 (wj1 w a)).1 6 := hb'.1.sca.1 6 (by omega)
  rw [e13']
  exact hk S6 h6 ((KP.rfl.i (by unfold ow; omega)).tr k6) r6
theorem m_jumps (hB : B < 999000) (h : OW w ns np nl B) {a : Int32} {k : Int32 → sSt → Prop} (hk : k (nI (wal np 0 (wj1 w a)).2) (sw S (wal np 0 (wj1 w a)).1)) : F_X12_jumps a (sw S w) k := by
  obtain ⟨cm, hW⟩ := h.wf
  have hnp := hW.hnp.1
  obtain ⟨y, y1, y2⟩ := cap_0 (w 4 + a)
  rw [F_X12_jumps, sw_w]
  rintro S1 rfl
  rw [sw_i]
  show F_X12_allLook (sw S (wj1 w a)) _
  have e : wj1 w a = va_up w 4 (nI y) := by unfold wj1; rw [y2]
  have h2 : OW (wj1 w a) ns np nl B := by rw [e]; exact h.clk (Or.inr rfl) y1
  rw [F_X12_allLook]
  exact m_allLook hB np 0 0 fuel _ (by omega) (fuel_gt (by omega)) h2 (by rw [Nat.zero_add]; exact hk)
theorem wj_6 {a : Int32} : (wal np 0 (wj1 w a)).1 6 = w 6 + nI (wal np 0 (wj1 w a)).2 := by
  rw [wal_6]
  have : wj1 w a 6 = w 6 := by unfold wj1; rw [up_ne (by omega)]
  rw [this]
theorem ad_sub (a b : Int32) : a + b - a = b := by
  rw [Int32.sub_eq_add_neg, Int32.add_comm a b, Int32.add_assoc, ← Int32.sub_eq_add_neg, Int32.sub_self, Int32.add_zero]
/-- a table whose jobs are bounded: what holds between calls -/
theorem zB.x (h : zB S t w π ns np cm nl) : zX S t w ns np nl (cm + 24 - π.length) := ⟨π, cm, h, by have := h.2.1.len; omega⟩
theorem inv_x (hR : zR n Sc Sm l sp) (hx : zX S' l w ns np nl B) (hb : B ≤ 1300 * (n + 1)) (hk : KP l Sc S') (h2 : S'.2 = Sc.2) {Tm : sSt} (hm : MK Sm Tm) : Inv (n + 1) S' (sw Tm w) := by
  obtain ⟨π, cm, h, hc⟩ := hx
  have hlen := h.2.1.len
  exact Inv.mk (hR.keep (Nat.le_succ n) (K2.l hk) hm.sw (by unfold zRef; rw [h2]; exact hR.2.2.2.1)) (by rw [sw_w]; exact h) (by omega)
theorem cs_20 (hn5 : n < 512) (h : Inv n Sc Sm) {a1 a2 a3 a4 a5 : Int32} {o : Int64} : CS_20 a1 a2 a3 a4 a5 Sc Sm o (fun S1 S2 _ => Inv (n + 1) S1 S2) := by
  obtain ⟨l, sp, π, ns, np, cm, nl, hR, hB, hc⟩ := h
  obtain ⟨w, hw⟩ : ∃ w, w = Sm.1 1 0 := ⟨_, rfl⟩
  have hs : Sm = sw Sm w := by rw [hw, sw_s]
  rw [← hw] at hB
  have hW := hB.2.2.1
  have m0 : MK Sm (uI Sm 0 0 0 0) := MK.rfl.f (by omega)
  have hX := hB.x
  have hBB : cm + 24 - π.length < 999000 := by omega
  show FW_ticks a1 Sc o (fun r1 S2 o3 => F_X12_ticks a1 Sm (tl n r1 S2 o3))
  unfold FW_ticks F_X11_ticks
  have st : ∀ {kk : Int32 → sSt → Prop}, ((¬ a1 < 1 ∧ ¬ 60 < a1) → F_X12_goesOn a1 (sw (uI Sm 0 0 0 0) w) kk) → (¬ (¬ a1 < 1 ∧ ¬ 60 < a1) → kk 0 (sw (uI (uI Sm 0 0 0 0) 0 0 0 1) w)) → F_X12_ticks a1 Sm kk := by
    intro kk q1 q2
    rw [hs, F_X12_ticks]
    rintro S1 rfl
    rw [sw_c (by omega), m_in]
    simp only [b2i_0, Bool.not_eq_false]
    refine ⟨fun c => ?_, fun c => ?_⟩
    · rw [B_X12_ticks_21, m_throws0]
      exact ⟨fun _ => q1 (in_b.mp c), fun z => absurd rfl z⟩
    · rw [B_X12_ticks_21, m_throws1, sw_c (by omega)]
      exact ⟨fun z => absurd z (by decide), fun _ => q2 (fun z => by rw [in_b.mpr z] at c; exact absurd c (by decide))⟩
  have bad : ¬ (¬ a1 < 1 ∧ ¬ 60 < a1) → B_X11_ticks_11 Sc (fun r S1 => F_X12_ticks a1 Sm (tl n 0 S1 r.toInt64)) (fun E S1 => (E = "java/lang/IllegalArgumentException" → F_X12_ticks a1 Sm (tl n 1 S1 o)) ∧ (¬ E = "java/lang/IllegalArgumentException" → False)) := fun q => by
    rw [B_X11_ticks_11]
    exact ⟨fun _ => st (fun z => absurd z q) (fun _ => tl_ex uI_at (by decide) (inv_same hR hB hc (m0.f (by omega)))), fun z => absurd rfl z⟩
  refine ⟨fun c => bad (fun z => z.1 c), fun c => ⟨fun c2 => ?_, fun c2 => bad (fun z => z.2 (Int32.not_le.mp c2))⟩⟩
  obtain ⟨N, N1, N2⟩ := nI_of2 (M := 60) (n := 60) rfl (fun z => c (Int32.lt_trans z (by decide))) c2
  have e13 : Sc.1 13 l 13 = w 6 := hB.1.sca.1 6 (by omega)
  rw [hR.2.1, F_X6_tickTimes, e13, forall_eq, N2]
  refine x_tick hBB N1 N 0 fuel Sc w (by omega) (fuel_gt (by omega)) hX (fun S5 h5 k5 r5 => ?_)
  rw [wtk_6, ad_sub, ← N2]
  refine st (fun _ => ?_) (fun z => absurd ⟨c, Int32.not_lt.mpr c2⟩ z)
  rw [F_X12_goesOn, N2]
  refine m_goesOn hBB N1 N 0 0 fuel w (by omega) (fuel_gt (by omega)) hX.ow ?_
  rw [Nat.zero_add]
  exact tl_ok uI_at (inv_x hR h5 (by omega) k5 r5 m0) rfl
theorem cs_21 (hn5 : n < 512) (h : Inv n Sc Sm) {a1 a2 a3 a4 a5 : Int32} {o : Int64} : CS_21 a1 a2 a3 a4 a5 Sc Sm o (fun S1 S2 _ => Inv (n + 1) S1 S2) := by
  obtain ⟨l, sp, π, ns, np, cm, nl, hR, hB, hc⟩ := h
  obtain ⟨w, hw⟩ : ∃ w, w = Sm.1 1 0 := ⟨_, rfl⟩
  have hs : Sm = sw Sm w := by rw [hw, sw_s]
  rw [← hw] at hB
  have hW := hB.2.2.1
  have m0 : MK Sm (uI Sm 0 0 0 0) := MK.rfl.f (by omega)
  have hX := hB.x
  have hBB : cm + 24 - π.length < 999000 := by omega
  show FW_jump a1 Sc o (fun r1 S2 o3 => F_X12_jump a1 Sm (tl n r1 S2 o3))
  unfold FW_jump F_X11_jump
  have st : ∀ {kk : Int32 → sSt → Prop}, ((¬ a1 < -300 ∧ ¬ 300 < a1) → F_X12_jumps a1 (sw (uI Sm 0 0 0 0) w) kk) → (¬ (¬ a1 < -300 ∧ ¬ 300 < a1) → kk 0 (sw (uI (uI Sm 0 0 0 0) 0 0 0 1) w)) → F_X12_jump a1 Sm kk := by
    intro kk q1 q2
    rw [hs, F_X12_jump]
    rintro S1 rfl
    rw [sw_c (by omega), m_in]
    simp only [b2i_0, Bool.not_eq_false]
    refine ⟨fun c => ?_, fun c => ?_⟩
    · rw [B_X12_jump_24, m_throws0]
      exact ⟨fun _ => q1 (in_b.mp c), fun z => absurd rfl z⟩
    · rw [B_X12_jump_24, m_throws1, sw_c (by omega)]
      exact ⟨fun z => absurd z (by decide), fun _ => q2 (fun z => by rw [in_b.mpr z] at c; exact absurd c (by decide))⟩
  have bad : ¬ (¬ a1 < -300 ∧ ¬ 300 < a1) → B_X11_jump_14 Sc (fun r S1 => F_X12_jump a1 Sm (tl n 0 S1 r.toInt64)) (fun E S1 => (E = "java/lang/IllegalArgumentException" → F_X12_jump a1 Sm (tl n 1 S1 o)) ∧ (¬ E = "java/lang/IllegalArgumentException" → False)) := fun q => by
    rw [B_X11_jump_14]
    exact ⟨fun _ => st (fun z => absurd z q) (fun _ => tl_ex uI_at (by decide) (inv_same hR hB hc (m0.f (by omega)))), fun z => absurd rfl z⟩
  refine ⟨fun c => bad (fun z => z.1 c), fun c => ⟨fun c2 => ?_, fun c2 => bad (fun z => z.2 (Int32.not_le.mp c2))⟩⟩
  rw [hR.2.1]
  refine x_jumpBy hBB hX (fun S5 h5 k5 r5 => ?_)
  rw [wj_6, ad_sub]
  refine st (fun _ => ?_) (fun z => absurd ⟨c, Int32.not_lt.mpr c2⟩ z)
  refine m_jumps hBB hX.ow ?_
  exact tl_ok uI_at (inv_x hR h5 (by omega) k5 r5 m0) rfl
/-- would: the model's side, whose world is brought back -/
theorem m_would (hB : B < 999000) (hX : OW w ns np nl B) {a1 a2 : Int32} {N : Nat} (hN : N ≤ 60) (eN : a1 = nI N) {k : Int32 → sSt → Prop} (hk : ∀ T, MK Sm T → T.1 0 0 0 = 0 → T.1 1 0 = w → k (if a2 = 0 then nI (wtk np N w).2 else nI (wal np 0 (wj1 w a1)).2) T) (hs : Sm = sw Sm w) : F_X12_would a1 a2 Sm k := by
  obtain ⟨cm, hW⟩ := hX.wf
  have hnp := hW.hnp.1
  rw [hs, F_X12_would]
  rintro S1 rfl
  rw [sw_c (by omega), m_in, eN, show (60 : Int32) = nI 60 from rfl, (rng_in (by omega)).mpr ⟨N, hN, rfl⟩]
  refine ⟨fun _ => ?_, fun z => absurd z (by decide)⟩
  rw [B_X12_would_21, m_throws0]
  refine ⟨fun _ => ?_, fun z => absurd rfl z⟩
  refine m_keepsAll (fun T1 o1 x1 => ?_)
  have eT : T1 = sw T1 w := by
    have : T1.1 1 0 = w := by rw [o1 1 0 (by omega), sw_w]
    rw [← this, sw_s]
  have fin : ∀ (u : Wd) (r : Int32), (∀ x, 1289 ≤ x → u x = w x) → r = (if a2 = 0 then nI (wtk np N w).2 else nI (wal np 0 (wj1 w a1)).2) → B_X12_would_51 r (sw T1 u) k := by
    intro u r hu hr
    rw [B_X12_would_51]
    refine m_bringsBack (fun T3 o3 x3 y3 => ?_)
    rw [hr]
    have oT : ∀ a b, a ≠ 1 → a ≠ 4 → T3.1 a b = (uI Sm 0 0 0 0).1 a b := fun a b z1 z4 => by
      rw [o3 a b (by omega), sw_o (by omega), o1 a b (by omega), sw_o (by omega)]
    refine hk T3 ((MK.rfl.f (by omega) : MK Sm (uI Sm 0 0 0 0)).tr ⟨fun f _ _ _ _ => by rw [oT 0 0 (by omega) (by omega)], oT 2 0 (by omega) (by omega), oT 6 0 (by omega) (by omega)⟩) (by rw [oT 0 0 (by omega) (by omega)]; exact uI_at) ?_
    funext x
    rcases Nat.lt_or_ge x 1289 with c | c
    · rw [x3 x c, sw_o (by omega), x1 x c, sw_w]
    · rw [y3 x c, sw_w]; exact hu x c
  rw [eT]
  refine ⟨fun c => ?_, fun c => ?_⟩
  · rw [F_X12_goesOn]
    refine m_goesOn hB hN N 0 0 fuel w (by omega) (fuel_gt (by omega)) hX ?_
    rw [Nat.zero_add]
    exact fin _ _ (fun x hx => wtk_hi (by omega) hnp _ _) (by rw [if_pos c])
  · refine m_jumps hB hX ?_
    refine fin _ _ (fun x hx => ?_) (by rw [if_neg c, eN])
    rw [wal_hi (Or.inl hx) np 0 _ (by omega)]
    unfold wj1
    exact up_ne (by omega)
theorem m_would0 {a1 a2 : Int32} {k : Int32 → sSt → Prop} (hs : Sm = sw Sm w) (h0 : ¬ (¬ a1 < 0 ∧ ¬ 60 < a1)) (hk : k 0 (sw (uI (uI Sm 0 0 0 0) 0 0 0 1) w)) : F_X12_would a1 a2 Sm k := by
  rw [hs, F_X12_would]
  rintro S1 rfl
  rw [sw_c (by omega), m_in]
  simp only [b2i_0, Bool.not_eq_false]
  refine ⟨fun c => absurd (in_b.mp c) h0, fun c => ?_⟩
  rw [B_X12_would_21, m_throws1, sw_c (by omega)]
  exact ⟨fun z => absurd z (by decide), fun _ => hk⟩
theorem cs_33x (hn5 : n < 512) (h : Inv n Sc Sm) {a1 a2 : Int32} {o : Int64} : FW_would a1 a2 Sc o (fun r1 S2 o3 => F_X12_would a1 a2 Sm (tl n r1 S2 o3)) := by
  obtain ⟨l, sp, π, ns, np, cm, nl, hR, hB, hc⟩ := h
  obtain ⟨w, hw⟩ : ∃ w, w = Sm.1 1 0 := ⟨_, rfl⟩
  have hs : Sm = sw Sm w := by rw [hw, sw_s]
  rw [← hw] at hB
  have hW := hB.2.2.1
  have m0 : MK Sm (uI Sm 0 0 0 0) := MK.rfl.f (by omega)
  have hX := hB.x
  have hBB : cm + 24 - π.length < 999000 := by omega
  unfold FW_would F_X11_would
  have bad : ¬ (¬ a1 < 0 ∧ ¬ 60 < a1) → B_X11_would_10 Sc (fun r S1 => F_X12_would a1 a2 Sm (tl n 0 S1 r.toInt64)) (fun E S1 => (E = "java/lang/IllegalArgumentException" → F_X12_would a1 a2 Sm (tl n 1 S1 o)) ∧ (¬ E = "java/lang/IllegalArgumentException" → False)) := fun q => by
    rw [B_X11_would_10]
    exact ⟨fun _ => m_would0 hs q (tl_ex uI_at (by decide) (inv_same hR hB hc (m0.f (by omega)))), fun z => absurd rfl z⟩
  refine ⟨fun c => bad (fun z => z.1 c), fun c => ⟨fun c2 => ?_, fun c2 => bad (fun z => z.2 (Int32.not_le.mp c2))⟩⟩
  obtain ⟨N, N1, N2⟩ := nI_of2 (M := 60) (n := 60) rfl c c2
  rw [hR.2.1, hR.2.2.1]
  refine x_copyTable hB hR.2.2.2.1 (by have := hR.1; omega) (fun S6 b6 k6 r6 _ => ?_)
  have l6 : S6.2 0 0 5 = sp := by rw [r6]; exact hR.2.2.1
  have e13 : S6.1 13 sp 13 = w 6 := b6.1.sca.1 6 (by omega)
  rw [l6]
  have fin : ∀ (S9 : sSt) (r : Int32), KP sp S6 S9 → S9.2 = S6.2 → r = (if a2 = 0 then nI (wtk np N w).2 else nI (wal np 0 (wj1 w a1)).2) → F_X12_would a1 a2 Sm (tl n 0 S9 r.toInt64) := by
    intro S9 r k9 r9 hr
    refine m_would hBB hX.ow N1 N2 (fun T hm h0 hT => ?_) hs
    have eT : T = sw T w := by rw [← hT, sw_s]
    rw [eT]
    exact tl_ok h0 (inv_spare hR hB hc (k6.tr k9) (r9.trans r6) hm) hr
  refine ⟨fun d => ?_, fun d => ?_⟩
  · rw [F_X6_tickTimes, e13, forall_eq, N2]
    refine x_tick hBB N1 N 0 fuel S6 w (by omega) (fuel_gt (by omega)) b6.x (fun S9 _ k9 r9 => ?_)
    rw [← N2]
    exact fin S9 _ k9 r9 (by rw [wtk_6, ad_sub, if_pos d])
  · refine x_jumpBy hBB b6.x (fun S9 _ k9 r9 => ?_)
    exact fin S9 _ k9 r9 (by rw [wj_6, ad_sub, if_neg d])
theorem cs_33 (hn5 : n < 512) (h : Inv n Sc Sm) {a1 a2 a3 a4 a5 : Int32} {o : Int64} : CS_33 a1 a2 a3 a4 a5 Sc Sm o (fun S1 S2 _ => Inv (n + 1) S1 S2) := by
  unfold CS_33
  refine ⟨fun c => ?_, fun c => ?_⟩
  · have := cs_33x hn5 h (a1 := a1) (a2 := 0) (o := o)
    simp only [c, true_implies, not_true_eq_false, false_implies, and_true]
    exact this
  · have := cs_33x hn5 h (a1 := a1) (a2 := 1) (o := o)
    simp only [c, false_implies, true_and, not_false_eq_true, true_implies]
    exact this
end CS
end PU57
