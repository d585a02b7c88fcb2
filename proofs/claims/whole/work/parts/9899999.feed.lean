section PU65
/-! CALLS feed, end -/
/-- a byte of a number that is fed -/
def bya (a : Int32) (r : Nat) : Int32 := (a >>> ((if r = 0 then 24 else if r = 1 then 16 else if r = 2 then 8 else 0) &&& 31)).toInt8.toInt32
section CS
variable {Sc Sc' Sm Sm' S S' : sSt} {l sp l' sp' n n' : Nat} {w : Wd} {π : List Nat} {ns np cm nl : Nat}
theorem bya_b (a : Int32) (r : Nat) : bya a r = (bya a r).toInt8.toInt32 := by
  unfold bya
  have := pk_vb (a >>> ((if r = 0 then 24 else if r = 1 then 16 else if r = 2 then 8 else 0) &&& 31))
  rw [vp_nar_byte] at this
  exact this.symm
/-- the tape has changed, and what no table holds -/
theorem zR.tap (h : zR n Sc Sm l sp) (hn : n ≤ n') (hl : (l' = 1 ∧ sp' = 2) ∨ (l' = 2 ∧ sp' = 1)) (hrf : zRef Sc sp') (h4 : Sc'.2 0 0 4 = l') (h5 : Sc'.2 0 0 5 = sp') (h14 : Sc'.2 14 = Sc.2 14) (hc : ∀ k i, ¬ ow 1 k i → ¬ ow 2 k i → ¬ (k = 1 ∧ i = 0) → ¬ (k = 2 ∧ i = 0) → ¬ (3 ≤ k ∧ k ≤ 8 ∧ i = 0) → Sc'.1 k i = Sc.1 k i) (hm : Sm'.1 0 0 7 = Sm.1 0 0 7) (hm1 : Sm'.1 0 0 1 = Sm.1 0 0 1) (hm2 : Sm'.1 2 0 = Sm.1 2 0) (ht : zTap Sc' Sm') : zR n' Sc' Sm' l' sp' := by
  obtain ⟨h1, -, -, r4, r5, ⟨i1, i2⟩, h7, -⟩ := h
  have e0 : ∀ i, Sc'.1 0 i = Sc.1 0 i := fun i => hc 0 i (by unfold ow; omega) (by unfold ow; omega) (by omega) (by omega) (by omega)
  have rr : ∀ t, Sc'.2 14 t = Sc.2 14 t := fun t => by rw [h14]
  refine ⟨hl, h4, h5, by unfold zRef; rw [rr]; exact hrf, by unfold zRef; rw [rr]; exact r5, ⟨by rw [e0, hm]; exact i1, ?_⟩, by rw [e0, hm1]; exact h7, ht⟩
  rw [hm, hm2]
  rcases i2 with i2 | ⟨i2, π, ns, np, cm, nl, i3, i4⟩
  · exact Or.inl i2
  · exact Or.inr ⟨i2, π, ns, np, cm, nl, i3.cells (fun k i q1 q2 => hc k i (by unfold ow at *; omega) (by unfold ow at *; omega) (by unfold ow at *; omega) (by unfold ow at *; omega) (by unfold ow at *; omega)) (rr 0), Nat.le_trans i4 (Nat.mul_le_mul_left _ hn)⟩
theorem x_append {a : Int32} {m : Nat} (hm : m + 4 ≤ 400) (h1 : S.1 1 0 1 = nI m) {k : sSt → Prop} (hk : ∀ S', (∀ c b, ¬ (c = 1 ∧ b = 0) → ¬ (c = 2 ∧ b = 0) → S'.1 c b = S.1 c b) → (∀ f, f ≠ 1 → S'.1 1 0 f = S.1 1 0 f) → S'.2 = S.2 → S'.1 1 0 1 = nI (m + 4) → (∀ x, x < m → S'.1 2 0 x = S.1 2 0 x) → (∀ r, r < 4 → S'.1 2 0 (m + r) = bya a r) → k S') : F_X8_append a S k := by
  rw [F_X8_append]
  suffices hh : ∀ r i fu (S1 : sSt), i + r = 4 → r < fu → (∀ c b, ¬ (c = 1 ∧ b = 0) → ¬ (c = 2 ∧ b = 0) → S1.1 c b = S.1 c b) → (∀ f, f ≠ 1 → S1.1 1 0 f = S.1 1 0 f) → S1.2 = S.2 → S1.1 1 0 1 = nI (m + i) → (∀ x, x < m → S1.1 2 0 x = S.1 2 0 x) → (∀ r, r < i → S1.1 2 0 (m + r) = bya a r) → B_X8_append_3 fu a (if i = 0 then 24 else if i = 1 then 16 else if i = 2 then 8 else if i = 3 then 0 else -8) S1 k from
    hh 4 0 fuel S (by omega) (fuel_gt (by omega)) (fun _ _ _ _ => rfl) (fun _ _ => rfl) rfl h1 (fun _ _ => rfl) (fun r hr => absurd hr (Nat.not_lt_zero r))
  intro r
  induction r with
  | zero =>
    intro i fu S1 hi hfu o1 o2 o3 o4 o5 o6
    obtain ⟨fu, rfl⟩ : ∃ z, fu = z + 1 := ⟨fu - 1, by omega⟩
    have e : i = 4 := by omega
    subst e
    simp only [B_X8_append_3_s, Bb_X8_append_3]
    exact ⟨fun _ => hk S1 o1 o2 o3 o4 o5 o6, fun q => absurd (show (-8 : Int32) < 0 from by decide) q⟩
  | succ r ih =>
    intro i fu S1 hi hfu o1 o2 o3 o4 o5 o6
    obtain ⟨fu, rfl⟩ : ∃ z, fu = z + 1 := ⟨fu - 1, by omega⟩
    have hs : ¬ (if i = 0 then 24 else if i = 1 then 16 else if i = 2 then 8 else if i = 3 then 0 else -8 : Int32) < 0 := by
      rcases (show i = 0 ∨ i = 1 ∨ i = 2 ∨ i = 3 by omega) with rfl | rfl | rfl | rfl <;> decide
    have hb : (a >>> ((if i = 0 then 24 else if i = 1 then 16 else if i = 2 then 8 else if i = 3 then 0 else -8 : Int32) &&& 31)).toInt8.toInt32 = bya a i := by
      unfold bya
      rcases (show i = 0 ∨ i = 1 ∨ i = 2 ∨ i = 3 by omega) with rfl | rfl | rfl | rfl <;> rfl
    have hn8 : (if i = 0 then 24 else if i = 1 then 16 else if i = 2 then 8 else if i = 3 then 0 else -8 : Int32) + (-8) = (if i + 1 = 0 then 24 else if i + 1 = 1 then 16 else if i + 1 = 2 then 8 else if i + 1 = 3 then 0 else -8 : Int32) := by
      rcases (show i = 0 ∨ i = 1 ∨ i = 2 ∨ i = 3 by omega) with rfl | rfl | rfl | rfl <;> decide
    simp only [B_X8_append_3_s, Bb_X8_append_3]
    refine ⟨fun q => absurd q hs, fun _ => ?_⟩
    rw [o4]
    refine ⟨fun q => absurd q (nI_ge (b := 400) (show m + i < 400 by omega) (by omega)), fun _ => ?_⟩
    rw [ix_n (by omega) (by omega), hb, vp_nar_byte, ← bya_b]
    rintro S4 rfl S5 e5 x6 rfl
    rw [uI_other (by omega), o4, nI_1] at e5
    rw [hn8]
    refine ih (i + 1) fu S5 (by omega) (by omega) (fun c b q1 q2 => by rw [e5, uI_other q1, uI_other q2]; exact o1 c b q1 q2) (fun f hf => by rw [e5, uI_nc (by omega), uI_other (by omega)]; exact o2 f hf) (by rw [e5]; exact o3) (by rw [e5, uI_at]; rfl) (fun x hx => by rw [e5, uI_other (by omega), uI_nc (by omega)]; exact o5 x hx) (fun y hy => ?_)
    rw [e5, uI_other (by omega)]
    by_cases e : y = i
    · rw [e, uI_at]
    · rw [uI_nc (by omega)]; exact o6 y (by omega)
def arf (a1 a2 a3 a4 a5 : Int32) (q : Nat) : Int32 := if q = 0 then a1 else if q = 1 then a2 else if q = 2 then a3 else if q = 3 then a4 else a5
theorem x_feed5 {a1 a2 a3 a4 a5 : Int32} {m : Nat} (hm : m + 20 ≤ 400) (h1 : S.1 1 0 1 = nI m) {k : sSt → Prop} (hk : ∀ S', (∀ c b, ¬ (c = 1 ∧ b = 0) → ¬ (c = 2 ∧ b = 0) → S'.1 c b = S.1 c b) → (∀ f, f ≠ 1 → S'.1 1 0 f = S.1 1 0 f) → S'.2 = S.2 → S'.1 1 0 1 = nI (m + 20) → (∀ x, x < m → S'.1 2 0 x = S.1 2 0 x) → (∀ q r, q < 5 → r < 4 → S'.1 2 0 (m + (4 * q + r)) = bya (arf a1 a2 a3 a4 a5 q) r) → k S') : F_X8_append a1 S (fun S5 => F_X8_append a2 S5 (fun S7 => F_X8_append a3 S7 (fun S9 => F_X8_append a4 S9 (fun S11 => F_X8_append a5 S11 k)))) := by
  refine x_append (by omega) h1 (fun A1 p1 p2 p3 p4 p5 p6 => ?_)
  refine x_append (by omega) p4 (fun A2 q1 q2 q3 q4 q5 q6 => ?_)
  refine x_append (by omega) q4 (fun A3 r1 r2 r3 r4 r5 r6 => ?_)
  refine x_append (by omega) r4 (fun A4 s1 s2 s3 s4 s5 s6 => ?_)
  refine x_append (by omega) s4 (fun A5 t1 t2 t3 t4 t5 t6 => ?_)
  refine hk A5 (fun c b z1 z2 => by rw [t1 c b z1 z2, s1 c b z1 z2, r1 c b z1 z2, q1 c b z1 z2, p1 c b z1 z2]) (fun f hf => by rw [t2 f hf, s2 f hf, r2 f hf, q2 f hf, p2 f hf]) (by rw [t3, s3, r3, q3, p3]) t4 (fun x hx => by rw [t5 x (by omega), s5 x (by omega), r5 x (by omega), q5 x (by omega), p5 x hx]) (fun q r hq hr => ?_)
  unfold arf
  rcases (show q = 0 ∨ q = 1 ∨ q = 2 ∨ q = 3 ∨ q = 4 by omega) with rfl | rfl | rfl | rfl | rfl
  · rw [t5 _ (by omega), s5 _ (by omega), r5 _ (by omega), q5 _ (by omega), show m + (4 * 0 + r) = m + r from by omega]; exact p6 r hr
  · rw [t5 _ (by omega), s5 _ (by omega), r5 _ (by omega), show m + (4 * 1 + r) = m + 4 + r from by omega]; exact q6 r hr
  · rw [t5 _ (by omega), s5 _ (by omega), show m + (4 * 2 + r) = m + 4 + 4 + r from by omega]; exact r6 r hr
  · rw [t5 _ (by omega), show m + (4 * 3 + r) = m + 4 + 4 + 4 + r from by omega]; exact s6 r hr
  · rw [show m + (4 * 4 + r) = m + 4 + 4 + 4 + 4 + r from by omega]; exact t6 r hr
theorem m_feed60 {a1 a2 a3 a4 a5 : Int32} {m : Nat} (hm : m + 20 ≤ 400) (h9 : S.1 0 0 9 = nI m) (h7 : ∀ q, q < 5 → S.1 7 0 q = arf a1 a2 a3 a4 a5 q) {k : Int32 → sSt → Prop} (hk : ∀ S', (∀ c b, ¬ (c = 0 ∧ b = 0) → ¬ (c = 6 ∧ b = 0) → S'.1 c b = S.1 c b) → (∀ f, f ≠ 9 → S'.1 0 0 f = S.1 0 0 f) → S'.1 0 0 9 = nI (m + 20) → (∀ x, x < m → S'.1 6 0 x = S.1 6 0 x) → (∀ q r, q < 5 → r < 4 → S'.1 6 0 (m + (4 * q + r)) = bya (arf a1 a2 a3 a4 a5 q) r) → k (nI (m + 20)) S') : B_X12_feed_60 fuel 0 S k := by
  suffices hh : ∀ r i fu (S1 : sSt), i + r = 20 → r < fu → (∀ c b, ¬ (c = 6 ∧ b = 0) → S1.1 c b = S.1 c b) → (∀ x, x < m → S1.1 6 0 x = S.1 6 0 x) → (∀ x, x < i → S1.1 6 0 (m + x) = bya (arf a1 a2 a3 a4 a5 (x / 4)) (x % 4)) → B_X12_feed_60 fu (nI i) S1 k from
    hh 20 0 fuel S (by omega) (fuel_gt (by omega)) (fun _ _ _ => rfl) (fun _ _ => rfl) (fun x hx => absurd hx (Nat.not_lt_zero x))
  intro r
  induction r with
  | zero =>
    intro i fu S1 hi hfu o1 o5 o6
    obtain ⟨fu, rfl⟩ : ∃ z, fu = z + 1 := ⟨fu - 1, by omega⟩
    have e : i = 20 := by omega
    subst e
    simp only [B_X12_feed_60_s, Bb_X12_feed_60]
    refine ⟨fun _ => ?_, fun q => absurd (show (20 : Int32) ≤ nI 20 from by decide) q⟩
    have e9 : S1.1 0 0 9 = nI m := by rw [o1 0 0 (by omega)]; exact h9
    rintro S9 rfl
    rw [uI_at, e9, show nI m + 20 = nI (m + 20) from nI_add m 20]
    refine hk _ (fun c b z1 z2 => by rw [uI_other z1]; exact o1 c b z2) (fun f hf => by rw [uI_nc (by omega), o1 0 0 (by omega)]) uI_at (fun x hx => by rw [uI_other (by omega)]; exact o5 x hx) (fun q r hq hr => ?_)
    rw [uI_other (by omega), o6 _ (by omega), show (4 * q + r) / 4 = q from by omega, show (4 * q + r) % 4 = r from by omega]
  | succ r ih =>
    intro i fu S1 hi hfu o1 o5 o6
    obtain ⟨fu, rfl⟩ : ∃ z, fu = z + 1 := ⟨fu - 1, by omega⟩
    have e9 : S1.1 0 0 9 = nI m := by rw [o1 0 0 (by omega)]; exact h9
    have e7 : S1.1 7 0 (i / 4) = arf a1 a2 a3 a4 a5 (i / 4) := by rw [o1 7 0 (by omega)]; exact h7 _ (by omega)
    have ed4 : nI i / 4 = nI (i / 4) := pk_div (d := 4) (by omega) (by omega) (by omega)
    have em : nI i - nI i / 4 * 4 = nI (i % 4) := pk_rem (d := 4) (by omega) (by omega) (by omega)
    simp only [B_X12_feed_60_s, Bb_X12_feed_60]
    refine ⟨fun q => absurd q (nI_ge (b := 20) (show i < 20 by omega) (by omega)), fun _ => ?_⟩
    rw [em, ed4, ix_n (by omega) (by omega), e9, nI_add, ix_n (by omega) (by omega), e7]
    have hb : ((arf a1 a2 a3 a4 a5 (i / 4)) >>> ((24 - 8 * nI (i % 4)) &&& 31)).toInt8.toInt32 = bya (arf a1 a2 a3 a4 a5 (i / 4)) (i % 4) := by
      unfold bya
      rcases (show i % 4 = 0 ∨ i % 4 = 1 ∨ i % 4 = 2 ∨ i % 4 = 3 by omega) with z | z | z | z <;> rw [z] <;> rfl
    rw [hb, vp_nar_byte, ← bya_b]
    rintro S12 rfl x13 rfl
    rw [nI_1]
    refine ih (i + 1) fu _ (by omega) (by omega) (fun c b z => by rw [uI_other z]; exact o1 c b z) (fun x hx => by rw [uI_nc (by omega)]; exact o5 x hx) (fun x hx => ?_)
    by_cases e : x = i
    · rw [e, uI_at]
    · rw [uI_nc (by omega)]; exact o6 x (by omega)
theorem cs_0 (h : Inv n Sc Sm) {a1 a2 a3 a4 a5 : Int32} {o : Int64} : CS_0 a1 a2 a3 a4 a5 Sc Sm o (fun S1 S2 _ => Inv (n + 1) S1 S2) := by
  obtain ⟨l, sp, π, ns, np, cm, nl, hR, hB, hc⟩ := h
  obtain ⟨t1, L, t2, t3, t4, t5⟩ := hR.2.2.2.2.2.2.2
  have m0 : MK Sm (uI Sm 0 0 0 0) := MK.rfl.f (by omega)
  unfold CS_0 F_X11_feed F_X12_feed F_X8_hasRoom
  rw [t3, show nI L + 20 = nI (L + 20) from nI_add L 20]
  by_cases c : L + 20 ≤ 400
  · have q1 : ¬ (400 : Int32) < nI (L + 20) := nI_nlt (a := L + 20) (b := L + 20) (by omega) (by omega) |> fun _ => Int32.not_lt.mpr (nI_le (b := 400) c (by omega))
    refine ⟨fun q => absurd q q1, fun _ => ⟨fun _ => ?_, fun q => absurd q (by decide)⟩⟩
    refine x_feed5 c t3 (fun S13 o1 o2 o3 o4 o5 o6 => ?_)
    rintro S1 rfl
    rw [uI_nc (by omega), t4, show nI L + 20 = nI (L + 20) from nI_add L 20]
    refine ⟨fun _ => ?_, fun q => absurd (nI_le (b := 400) c (by omega)) q⟩
    rintro A3 rfl A4 rfl A5 rfl A6 rfl A7 rfl
    refine m_feed60 (a1 := a1) (a2 := a2) (a3 := a3) (a4 := a4) (a5 := a5) c ?_ (fun q hq => ?_) (fun Sm' p1 p2 p3 p5 p6 => ?_)
    · rw [uI_other (by omega), uI_other (by omega), uI_other (by omega), uI_other (by omega), uI_other (by omega), uI_nc (by omega)]; exact t4
    · unfold arf
      rcases (show q = 0 ∨ q = 1 ∨ q = 2 ∨ q = 3 ∨ q = 4 by omega) with rfl | rfl | rfl | rfl | rfl <;> simp [uI]
    · refine cs_eq o4 ?_
      have f1 : ∀ f, f ≠ 0 → f ≠ 9 → Sm'.1 0 0 f = Sm.1 0 0 f := fun f z1 z2 => by rw [p2 f z2, uI_other (by omega), uI_other (by omega), uI_other (by omega), uI_other (by omega), uI_other (by omega), uI_nc (by omega)]
      have fo : ∀ c b, ¬ (c = 0 ∧ b = 0) → ¬ (c = 6 ∧ b = 0) → ¬ (c = 7 ∧ b = 0) → Sm'.1 c b = Sm.1 c b := fun c b z1 z2 z3 => by rw [p1 c b z1 z2, uI_other z3, uI_other z3, uI_other z3, uI_other z3, uI_other z3, uI_other z1]
      have f6 : ∀ x, x < L → Sm'.1 6 0 x = Sm.1 6 0 x := fun x hx => by rw [p5 x hx, uI_other (by omega), uI_other (by omega), uI_other (by omega), uI_other (by omega), uI_other (by omega), uI_other (by omega)]
      have hT : zTap S13 Sm' := by
        refine ⟨by rw [o2 4 (by omega), f1 13 (by omega) (by omega)]; exact t1, L + 20, c, o4, p3, fun x hx => ?_⟩
        rcases Nat.lt_or_ge x L with z | z
        · rw [o5 x z, f6 x z]; exact t5 x z
        · have e : x = L + (4 * ((x - L) / 4) + (x - L) % 4) := by omega
          rw [e, o6 _ _ (by omega) (by omega), p6 _ _ (by omega) (by omega)]
          exact ⟨rfl, bya_b _ _⟩
      have e1 : Sm'.1 1 0 = Sm.1 1 0 := fo 1 0 (by omega) (by omega) (by omega)
      have hR' := hR.tap (n' := n + 1) (l' := l) (sp' := sp) (Nat.le_succ n) hR.1 hR.2.2.2.1 (by rw [o3]; exact hR.2.1) (by rw [o3]; exact hR.2.2.1) (by rw [o3]) (fun k i _ _ z1 z2 _ => o1 k i z1 z2) (f1 7 (by omega) (by omega)) (f1 1 (by omega) (by omega)) (fo 2 0 (by omega) (by omega) (by omega)) hT
      refine Inv.mk (π := π) (ns := ns) (np := np) (nl := nl) hR' ?_ (c_le hc)
      rw [e1]
      exact hB.cells (fun k i q1 q2 => o1 k i (by unfold ow at q1; omega) (by unfold ow at q1; omega)) (by rw [o3])
  · have q1 : (400 : Int32) < nI (L + 20) := nI_lt (a := 400) (by omega) (by omega)
    refine ⟨fun _ => ⟨fun q => absurd rfl q, fun _ => ?_⟩, fun q => absurd q1 q⟩
    rintro S1 rfl
    rw [uI_nc (by omega), t4, show nI L + 20 = nI (L + 20) from nI_add L 20]
    refine ⟨fun q => absurd q (nI_ge (a := 400) (by omega) (by omega)), fun _ => cs_eq rfl ?_⟩
    have hs : uI Sm 0 0 0 0 = sw (uI Sm 0 0 0 0) (Sm.1 1 0) := by
      have : (uI Sm 0 0 0 0).1 1 0 = Sm.1 1 0 := uI_other (by omega)
      rw [← this, sw_s]
    rw [hs]
    exact inv_same hR hB hc m0
theorem cs_1 (h : Inv n Sc Sm) {a1 a2 a3 a4 a5 : Int32} {o : Int64} : CS_1 a1 a2 a3 a4 a5 Sc Sm o (fun S1 S2 _ => Inv (n + 1) S1 S2) := by
  obtain ⟨l, sp, π, ns, np, cm, nl, hR, hB, hc⟩ := h
  obtain ⟨t1, L, t2, t3, t4, t5⟩ := hR.2.2.2.2.2.2.2
  have m0 : MK Sm (uI Sm 0 0 0 0) := MK.rfl.f (by omega)
  have e0 : (uI Sm 0 0 0 0).1 1 0 = Sm.1 1 0 := uI_other (by omega)
  have hs : uI Sm 0 0 0 0 = sw (uI Sm 0 0 0 0) (Sm.1 1 0) := by rw [← e0, sw_s]
  have no : Inv (n + 1) Sc (uI Sm 0 0 0 0) := by rw [hs]; exact inv_same hR hB hc m0
  unfold CS_1 F_X11_end
  rw [t3]
  have go : ∀ {kk : Int32 → sSt → Prop}, ((a1 < 0 → kk 0 (uI Sm 0 0 0 0)) ∧ (¬ a1 < 0 → ((a1 ≤ nI L → ∀ S4, S4 = uI (uI Sm 0 0 0 0) 0 0 9 a1 → kk 1 S4) ∧ (¬ a1 ≤ nI L → kk 0 (uI Sm 0 0 0 0))))) → F_X12_end a1 Sm kk := by
    intro kk hq
    rw [F_X12_end]
    intro S1 e1
    rw [e1, show (uI Sm 0 0 0 0).1 0 0 9 = nI L from by rw [uI_nc (by omega)]; exact t4]
    exact hq
  refine ⟨fun c => go ⟨fun _ => cs_eq rfl no, fun q => absurd c q⟩, fun c => ⟨fun c2 => ?_, fun c2 => go ⟨fun q => absurd q c, fun _ => ⟨fun q => absurd q c2, fun _ => cs_eq rfl no⟩⟩⟩⟩
  rintro S3 rfl
  refine go ⟨fun q => absurd q c, fun _ => ⟨fun _ => ?_, fun q => absurd c2 q⟩⟩
  rintro S4 rfl
  refine cs_eq rfl ?_
  obtain ⟨y, y1, y2⟩ := nI_of c
  rw [y2, nI_leI y1 (by omega)] at c2
  have hT : zTap (uI Sc 1 0 1 a1) (uI (uI Sm 0 0 0 0) 0 0 9 a1) := by
    refine ⟨by rw [uI_nc (by omega), uI_nc (by omega), uI_nc (by omega)]; exact t1, y, by omega, by rw [uI_at]; exact y2, by rw [uI_at]; exact y2, fun x hx => ?_⟩
    rw [uI_other (by omega), uI_other (by omega), uI_other (by omega)]
    exact t5 x (by omega)
  have hR' := hR.tap (n' := n + 1) (l' := l) (sp' := sp) (Sc' := uI Sc 1 0 1 a1) (Sm' := uI (uI Sm 0 0 0 0) 0 0 9 a1) (Nat.le_succ n) hR.1 hR.2.2.2.1 hR.2.1 hR.2.2.1 rfl (fun k i _ _ z1 _ _ => uI_other z1) (by rw [uI_nc (by omega), uI_nc (by omega)]) (by rw [uI_nc (by omega), uI_nc (by omega)]) (by rw [uI_other (by omega), uI_other (by omega)]) hT
  refine Inv.mk (π := π) (ns := ns) (np := np) (nl := nl) hR' ?_ (c_le hc)
  rw [uI_other (by omega), e0]
  exact hB.cells (fun k i q1 q2 => uI_other (by unfold ow at q1; omega)) rfl
end CS
end PU65
