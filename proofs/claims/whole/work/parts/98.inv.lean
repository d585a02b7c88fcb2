section PU18
/-! WHAT HOLDS BETWEEN CALLS -/
def zImg (n : Nat) (Sc Sm : sSt) : Prop := Sc.1 0 0 6 = Sm.1 0 0 7 ∧ (Sm.1 0 0 7 = 0 ∨ (Sm.1 0 0 7 = 1 ∧ ∃ π ns np cm nl, zB Sc 0 (Sm.1 2 0) π ns np cm nl ∧ cm ≤ 1300 * n))
def zTap (Sc Sm : sSt) : Prop := Sc.1 1 0 4 = Sm.1 0 0 13 ∧ ∃ L, L ≤ 400 ∧ Sc.1 1 0 1 = nI L ∧ Sm.1 0 0 9 = nI L ∧ ∀ x, x < L → Sc.1 2 0 x = Sm.1 6 0 x ∧ Sc.1 2 0 x = (Sc.1 2 0 x).toInt8.toInt32
/-- all but the live table -/
def zR (n : Nat) (Sc Sm : sSt) (l sp : Nat) : Prop := ((l = 1 ∧ sp = 2) ∨ (l = 2 ∧ sp = 1)) ∧ Sc.2 0 0 4 = l ∧ Sc.2 0 0 5 = sp ∧ zRef Sc sp ∧ zRef Sc 0 ∧ zImg n Sc Sm ∧ Sc.1 0 0 7 = Sm.1 0 0 1 ∧ zTap Sc Sm
def Inv (n : Nat) (Sc Sm : sSt) : Prop := ∃ l sp π ns np cm nl, zR n Sc Sm l sp ∧ zB Sc l (Sm.1 1 0) π ns np cm nl ∧ cm ≤ 1300 * n
/-- what the model may change of what is not the world -/
def MK (Sm Sm' : sSt) : Prop := (∀ f, f ≠ 0 → f ≠ 10 → f ≠ 11 → f ≠ 12 → Sm'.1 0 0 f = Sm.1 0 0 f) ∧ Sm'.1 2 0 = Sm.1 2 0 ∧ Sm'.1 6 0 = Sm.1 6 0
/-- what the class may change: the cells of both tables -/
def K2 (l sp : Nat) (S S' : sSt) : Prop := (∀ k i, ¬ ow l k i → ¬ ow sp k i → S'.1 k i = S.1 k i) ∧ (∀ k i, ¬ (k = 14 ∧ (i = l ∨ i = sp)) → S'.2 k i = S.2 k i)
theorem K2.rfl {l sp : Nat} {S : sSt} : K2 l sp S S := ⟨fun _ _ _ _ => Eq.refl _, fun _ _ _ => Eq.refl _⟩
theorem K2.l {l sp : Nat} {S S' : sSt} (h : KP l S S') : K2 l sp S S' := ⟨fun k i q _ => h.1 k i q, fun k i q => h.2 k i (by omega)⟩
theorem K2.s {l sp : Nat} {S S' : sSt} (h : KP sp S S') : K2 l sp S S' := ⟨fun k i _ q => h.1 k i q, fun k i q => h.2 k i (by omega)⟩
theorem K2.tr {l sp : Nat} {S S1 S2 : sSt} (h : K2 l sp S S1) (g : K2 l sp S1 S2) : K2 l sp S S2 := ⟨fun k i q1 q2 => (g.1 k i q1 q2).trans (h.1 k i q1 q2), fun k i q => (g.2 k i q).trans (h.2 k i q)⟩
theorem MK.rfl {S : sSt} : MK S S := ⟨fun _ _ _ _ _ => Eq.refl _, Eq.refl _, Eq.refl _⟩
theorem MK.tr {S S1 S2 : sSt} (h : MK S S1) (g : MK S1 S2) : MK S S2 := ⟨fun f a b c d => (g.1 f a b c d).trans (h.1 f a b c d), g.2.1.trans h.2.1, g.2.2.trans h.2.2⟩
theorem MK.sw {S S1 : sSt} {w : Wd} (h : MK S S1) : MK S (_root_.Jvm.Pilot.CClaimTableLaw_law_r8461_ee85a3.sw S1 w) := h.tr ⟨fun f _ _ _ _ => by rw [sw_o (by omega)], sw_o (by omega), sw_o (by omega)⟩
theorem MK.i {S S1 : sSt} {k i j : Nat} {v : Int32} (h : MK S S1) (hk : k = 1 ∨ k = 3 ∨ k = 4 ∨ k = 5 ∨ 7 ≤ k) : MK S (uI S1 k i j v) := h.tr ⟨fun f _ _ _ _ => by rw [uI_other (by omega)], uI_other (by omega), uI_other (by omega)⟩
theorem MK.f {S S1 : sSt} {f : Nat} {v : Int32} (h : MK S S1) (hk : f = 0 ∨ f = 10 ∨ f = 11 ∨ f = 12) : MK S (uI S1 0 0 f v) := h.tr ⟨fun f' _ _ _ _ => uI_nc (by omega), uI_other (by omega), uI_other (by omega)⟩
theorem MK.of {S S' : sSt} (h : ∀ a b, a ≠ 1 → a ≠ 8 → S'.1 a b = S.1 a b) : MK S S' := ⟨fun f _ _ _ _ => by rw [h 0 0 (by omega) (by omega)], h 2 0 (by omega) (by omega), h 6 0 (by omega) (by omega)⟩
section INV
variable {Sc Sc' Sm Sm' : sSt} {l sp n n' : Nat} {w : Wd} {π : List Nat} {ns np cm nl : Nat}
theorem zB.kp (h : zB Sc l w π ns np cm nl) {t' : Nat} (ht : l ≠ t') (hk : KP t' Sc Sc') : zB Sc' l w π ns np cm nl := ⟨h.1.kp ht hk h.2.2.1.hns.1 h.2.2.1.hnp.1 h.2.1.len, h.2⟩
/-- a table is told by its own cells -/
theorem zB.cells {t : Nat} (h : zB Sc t w π ns np cm nl) (hk : ∀ k i, ow t k i → ¬ (9 ≤ k ∧ k ≤ 12) → Sc'.1 k i = Sc.1 k i) (h14 : Sc'.2 14 t = Sc.2 14 t) : zB Sc' t w π ns np cm nl := by
  refine ⟨?_, h.2⟩
  obtain ⟨hT, hO, hW, hZ⟩ := h
  have hn := hW.hns.1
  refine ⟨by rw [hk 13 t (by unfold ow; omega) (by omega)]; exact hT.size, by unfold zRef; rw [h14]; exact hT.ref, hT.job.c hO hn h14 (fun i hi => hk _ _ (by have := hT.ref.1 i (by have := hO.len; omega); unfold ow; omega) (by omega)) (fun i hi d hd => hk _ _ (by have := hT.ref.1 i (by have := hO.len; omega); unfold ow; omega) (by omega)) (fun _ _ _ => rfl) (fun _ _ => rfl) (fun _ _ _ => rfl), hT.sca.c (fun f _ => by rw [hk 13 t (by unfold ow; omega) (by omega)]) (hk _ _ (by unfold ow; omega) (by omega)) (hk _ _ (by unfold ow; omega) (by omega)) (fun _ _ _ => rfl), hT.ses.c hn (fun s _ => hk _ _ (by unfold ow; omega) (by omega)) (fun s _ k _ _ => hk _ _ (by unfold ow; omega) (by omega)) (fun _ _ _ => rfl), hT.pln.c hW.hnp.1 (fun p _ => hk _ _ (by unfold ow; omega) (by omega)) (fun _ _ _ => rfl), hT.log.c hW.hnl.1 (hk _ _ (by unfold ow; omega) (by omega)) (hk _ _ (by unfold ow; omega) (by omega)) (fun _ _ _ => rfl)⟩
theorem zB.k2 (h : zB Sc 0 w π ns np cm nl) (hl : (l = 1 ∧ sp = 2) ∨ (l = 2 ∧ sp = 1)) (hk : K2 l sp Sc Sc') : zB Sc' 0 w π ns np cm nl :=
  h.cells (fun k i h1 h2 => hk.1 k i (by unfold ow at *; omega) (by unfold ow at *; omega)) (hk.2 14 0 (by omega))
theorem zR.keep (h : zR n Sc Sm l sp) (hn : n ≤ n') (hk : K2 l sp Sc Sc') (hm : MK Sm Sm') (hr : zRef Sc' sp) : zR n' Sc' Sm' l sp := by
  obtain ⟨h1, h2, h3, h4, h5, ⟨i1, i2⟩, h7, ⟨t1, L, t2, t3, t4, t5⟩⟩ := h
  have e0 : ∀ i, Sc'.1 0 i = Sc.1 0 i := fun i => hk.1 0 i (by unfold ow; omega) (by unfold ow; omega)
  have e1 : Sc'.1 1 0 = Sc.1 1 0 := hk.1 1 0 (by unfold ow; omega) (by unfold ow; omega)
  have e2 : Sc'.1 2 0 = Sc.1 2 0 := hk.1 2 0 (by unfold ow; omega) (by unfold ow; omega)
  have r0 : Sc'.2 0 0 = Sc.2 0 0 := hk.2 0 0 (by omega)
  refine ⟨h1, by rw [r0]; exact h2, by rw [r0]; exact h3, hr, by unfold zRef; rw [hk.2 14 0 (by omega)]; exact h5, ⟨by rw [e0, hm.1 7 (by omega) (by omega) (by omega) (by omega)]; exact i1, ?_⟩, by rw [e0, hm.1 1 (by omega) (by omega) (by omega) (by omega)]; exact h7, ⟨by rw [e1, hm.1 13 (by omega) (by omega) (by omega) (by omega)]; exact t1, L, t2, by rw [e1]; exact t3, by rw [hm.1 9 (by omega) (by omega) (by omega) (by omega)]; exact t4, fun x hx => by rw [e2, hm.2.2]; exact t5 x hx⟩⟩
  rw [hm.1 7 (by omega) (by omega) (by omega) (by omega), hm.2.1]
  rcases i2 with i2 | ⟨i2, π, ns, np, cm, nl, i3, i4⟩
  · exact Or.inl i2
  · exact Or.inr ⟨i2, π, ns, np, cm, nl, i3.k2 h1 hk, Nat.le_trans i4 (Nat.mul_le_mul_left _ hn)⟩
/-- WHY is told alike -/
theorem zR.why (h : zR n Sc Sm l sp) (v : Int32) : zR n (uI Sc 0 0 7 v) (uI Sm 0 0 1 v) l sp := by
  obtain ⟨h1, h2, h3, h4, h5, ⟨i1, i2⟩, h7, ⟨t1, L, t2, t3, t4, t5⟩⟩ := h
  refine ⟨h1, h2, h3, h4, h5, ⟨by rw [uI_nc (by omega), uI_nc (by omega)]; exact i1, ?_⟩, by rw [uI_at, uI_at], ⟨by rw [uI_nc (by omega), uI_nc (by omega)]; exact t1, L, t2, by rw [uI_nc (by omega)]; exact t3, by rw [uI_nc (by omega)]; exact t4, fun x hx => by rw [uI_other (by omega), uI_other (by omega)]; exact t5 x hx⟩⟩
  rw [uI_nc (by omega), uI_other (by omega)]
  rcases i2 with i2 | ⟨i2, π, ns, np, cm, nl, i3, i4⟩
  · exact Or.inl i2
  · exact Or.inr ⟨i2, π, ns, np, cm, nl, i3.cells (fun k i q1 _ => uI_other (by unfold ow at q1; omega)) (Eq.refl _), i4⟩
theorem zB.f0 (h : zB Sc l w π ns np cm nl) {f : Nat} {v : Int32} : zB (uI Sc 0 0 f v) l w π ns np cm nl := h.cells (fun k i q1 _ => uI_other (by unfold ow at q1; omega)) (Eq.refl _)
theorem Inv.mk (hR : zR n Sc Sm l sp) (hB : zB Sc l (Sm.1 1 0) π ns np cm nl) (hc : cm ≤ 1300 * n) : Inv n Sc Sm := ⟨l, sp, π, ns, np, cm, nl, hR, hB, hc⟩
/-- the end of a call whose answers are compared, and one that may throw -/
theorem cs_end {r1 r4 r6 : Int32} {o3 : Int64} {P : Prop} (h1 : r6 = r1) (h2 : r1 = 0 → o3 = r4.toInt64) (hP : P) : ((r6 = r1 → ((¬ r1 = 0 → P) ∧ (r1 = 0 → ((o3 = r4.toInt64 → P) ∧ (¬ o3 = r4.toInt64 → False))))) ∧ (¬ r6 = r1 → False)) :=
  ⟨fun _ => ⟨fun _ => hP, fun z => ⟨fun _ => hP, fun q => q (h2 z)⟩⟩, fun q => q h1⟩
theorem cs_eq {r1 r3 : Int32} {P : Prop} (h1 : r1 = r3) (hP : P) : ((r1 = r3 → P) ∧ (¬ r1 = r3 → False)) := ⟨fun _ => hP, fun q => q h1⟩
/-- a session that there is -/
theorem hasS_is (hW : WF w ns np cm nl) {a : Int32} (h : hasS w a = true) : ∃ s, s < ns ∧ a = nI s := by
  have hn := hW.hns.1
  unfold hasS at h
  rw [hW.hns.2] at h
  simp only [Bool.not_eq_true', Bool.or_eq_false_iff, decide_eq_false_iff_not] at h
  obtain ⟨j, h1, h2⟩ := nI_of h.1
  refine ⟨j, ?_, h2⟩
  have := h.2
  rw [h2, Int32.lt_iff_toInt_lt, nI_toInt h1, Int32.toInt_sub, nI_toInt (by omega), show (1 : Int32).toInt = 1 from rfl, Int.bmod_eq_of_le (by omega) (by omega)] at this
  omega
theorem hasS_of (hW : WF w ns np cm nl) {s : Nat} (h : s < ns) : hasS w (nI s) = true := by
  have hn := hW.hns.1
  unfold hasS
  rw [hW.hns.2]
  simp only [Bool.not_eq_true', Bool.or_eq_false_iff, decide_eq_false_iff_not]
  refine ⟨nI_pos (by omega), ?_⟩
  rw [Int32.lt_iff_toInt_lt, nI_toInt (by omega), Int32.toInt_sub, nI_toInt (by omega), show (1 : Int32).toInt = 1 from rfl, Int.bmod_eq_of_le (by omega) (by omega)]
  omega
theorem x_needSession (hl : Sc.2 0 0 4 = l) (h : zB Sc l w π ns np cm nl) {a : Int32} {k : sSt → Prop} {kx : String → sSt → Prop} (h1 : ∀ s, s < ns → a = nI s → k Sc) (h0 : hasS w a = false → kx "java/lang/IndexOutOfBoundsException" Sc) : F_X11_needSession a Sc k kx := by
  have hn := h.2.2.1.hns.1
  have e : Sc.1 13 l 7 = nI ns := (h.1.sca.1 0 (by omega)).trans h.2.2.1.hns.2
  rw [F_X11_needSession, hl, e, B_X11_needSession_15]
  have key : (¬ a < 0 ∧ a < nI ns) ↔ hasS w a = true := by
    constructor
    · rintro ⟨q1, q2⟩
      obtain ⟨j, j1, j2⟩ := nI_of q1
      rw [j2, nI_ltI j1 (by omega)] at q2
      rw [j2]; exact hasS_of h.2.2.1 q2
    · intro q
      obtain ⟨s, s1, s2⟩ := hasS_is h.2.2.1 q
      rw [s2]
      exact ⟨nI_pos (by omega), (nI_ltI (by omega) (by omega)).mpr s1⟩
  have no : ¬ (¬ a < 0 ∧ a < nI ns) → hasS w a = false := fun q => by
    cases c : hasS w a
    · rfl
    · exact absurd (key.mpr c) q
  refine ⟨fun c => h0 (no (fun q => q.1 c)), fun c => ⟨fun c2 => ?_, fun c2 => h0 (no (fun q => c2 q.2))⟩⟩
  obtain ⟨s, s1, s2⟩ := hasS_is h.2.2.1 (key.mp ⟨c, c2⟩)
  exact h1 s s1 s2
theorem x_jobSeen (h : zB Sc l w π ns np cm nl) {a n : Int32} {k : Option Nat → sSt → Prop} (h1 : ∀ i, i < π.length → num w (pl π i) = n → sees w (pl π i) a = true → k (some (Sc.2 14 l i)) Sc) (h0 : (∀ j, j < 24 → num w j = n → sees w j a = false) → k none Sc) : F_X6_jobSeen l n a Sc k := by
  have hlen := h.2.1.len
  rw [F_X6_jobSeen]
  suffices hh : ∀ r i m, i + r = π.length → r < m → (∀ x, x < i → num w (pl π x) = n → sees w (pl π x) a = false) → B_X6_jobSeen_2 m l n a (nI i) Sc k from hh π.length 0 fuel (by omega) (fuel_gt (by omega)) (fun x hx => absurd hx (Nat.not_lt_zero x))
  intro r
  induction r with
  | zero =>
    intro i m hi hm hx
    obtain ⟨m, rfl⟩ : ∃ q, m = q + 1 := ⟨m - 1, by omega⟩
    have e : i = π.length := by omega
    subst e
    simp only [B_X6_jobSeen_2_s, Bb_X6_jobSeen_2, h.1.size, nI_leI (show π.length < 2147483648 by omega) (show π.length < 2147483648 by omega), Nat.le_refl, true_implies, not_true_eq_false, false_implies, and_true]
    refine h0 (fun j hj hn => ?_)
    cases c : sees w j a
    · rfl
    · obtain ⟨x, x1, x2⟩ := h.2.1.pos hj (sees_lie c)
      have := hx x x1 (by rw [x2]; exact hn)
      rw [x2, c] at this; exact absurd this (by decide)
  | succ r ih =>
    intro i m hi hm hx
    obtain ⟨m, rfl⟩ : ∃ q, m = q + 1 := ⟨m - 1, by omega⟩
    have hil : i < π.length := by omega
    have hlt : ¬ nI π.length ≤ nI i := nI_ge hil (by omega)
    simp only [B_X6_jobSeen_2_s, Bb_X6_jobSeen_2, B_X6_jobSeen_43, h.1.size, hlt, false_implies, true_and, not_false_eq_true, true_implies]
    rw [ix_n (by omega) (by omega), x_num h.1 hil, x_isSeenBy h.1 h.2.1 h.2.2.1 hil]
    simp only [b2i_0, Bool.not_eq_false, forall_eq, nI_1]
    refine ⟨fun c => ih (i + 1) m (by omega) (by omega) (fun x hx' hn => ?_), fun c => ⟨fun c2 => ih (i + 1) m (by omega) (by omega) (fun x hx' hn => ?_), fun c2 => h1 i hil c c2⟩⟩
    · by_cases e : x = i
      · rw [e] at hn; exact absurd hn c
      · exact hx x (by omega) hn
    · by_cases e : x = i
      · rw [e]; exact c2
      · exact hx x (by omega) hn
theorem x_needJob (hl : Sc.2 0 0 4 = l) (h : zB Sc l w π ns np cm nl) {a n : Int32} {k : Nat → sSt → Prop} {kx : String → sSt → Prop} (h1 : ∀ i, i < π.length → num w (pl π i) = n → sees w (pl π i) a = true → k (Sc.2 14 l i) Sc) (h0 : (∀ j, j < 24 → num w j = n → sees w j a = false) → kx "java/lang/IndexOutOfBoundsException" Sc) : F_X11_needJob a n Sc k kx := by
  rw [F_X11_needJob, hl]
  exact x_jobSeen h (fun i q1 q2 q3 => opt_s.mpr (h1 i q1 q2 q3)) (fun q => opt_n.mpr (h0 q))
end INV
section MJ
variable {S : sSt} {w : Wd} {ns np cm nl : Nat}
theorem m_jobOf (hW : WF w ns np cm nl) {n : Int32} {k : Int32 → sSt → Prop} (h1 : ∀ j, j < 24 → num w j = n → lie w j = true → k (nI j) (sw S w)) (h0 : (∀ j, j < 24 → num w j = n → lie w j = false) → k (-1) (sw S w)) : F_X12_jobOf n (sw S w) k := by
  rw [F_X12_jobOf]
  simp only [B_X12_jobOf_10]
  refine ⟨fun c => ?_, fun c => ?_⟩
  · suffices hh : ∀ r i m, i + r = 24 → r < m → (∀ x, x < i → num w x ≠ n) → B_X12_jobOf_11 m n (nI i) (sw S w) k from hh 24 0 fuel (by omega) (fuel_gt (by omega)) (fun x hx => absurd hx (Nat.not_lt_zero x))
    intro r
    induction r with
    | zero =>
      intro i m hi hm hx
      obtain ⟨m, rfl⟩ : ∃ q, m = q + 1 := ⟨m - 1, by omega⟩
      have e : i = 24 := by omega
      subst e
      simp only [B_X12_jobOf_11_s, Bb_X12_jobOf_11, B_X12_jobOf_32, show (24 : Int32) ≤ nI 24 from by decide, show nI 24 = (24 : Int32) from rfl, true_implies, not_true_eq_false, false_implies, true_and, and_true]
      have : (24 : Int32) ≤ 24 := by decide
      simp only [this, true_implies, not_true_eq_false, false_implies, and_true]
      exact h0 (fun j hj hn => absurd hn (hx j hj))
    | succ r ih =>
      intro i m hi hm hx
      obtain ⟨m, rfl⟩ : ∃ q, m = q + 1 := ⟨m - 1, by omega⟩
      have hi4 : i < 24 := by omega
      have h : ¬ (24 : Int32) ≤ nI i := nI_ge (b := 24) hi4 (by omega)
      have h24 : ¬ nI i = 24 := fun q => by
        rw [show (24 : Int32) = nI 24 from rfl, nI_eq (by omega) (by omega)] at q; omega
      simp only [B_X12_jobOf_11_s, Bb_X12_jobOf_11, B_X12_jobOf_32, h, h24, false_implies, true_and, not_false_eq_true, true_implies, m_numberOf hi4, sw_w, forall_eq, nI_1, and_true]
      refine ⟨fun q => h1 i hi4 q ?_, fun q => ih (i + 1) m (by omega) (by omega) (fun x hx' => ?_)⟩
      · unfold lie
        rw [q]
        simp only [ne_eq, decide_eq_true_eq]
        intro z; rw [z] at c; exact absurd c (by decide)
      · by_cases e : x = i
        · rw [e]; exact q
        · exact hx x (by omega)
  · have : ∀ m, B_X12_jobOf_11 (m + 1) n 24 (sw S w) k := by
      intro m
      simp only [B_X12_jobOf_11_s, Bb_X12_jobOf_11, B_X12_jobOf_32, show (24 : Int32) ≤ 24 from by decide, true_implies, not_true_eq_false, false_implies, true_and, and_true]
      refine h0 (fun j hj hn => ?_)
      cases cl : lie w j
      · rfl
      · obtain ⟨x, x1, x2⟩ := hW.nu hj cl
        have hc := hW.hcm.1
        rw [← hn, x2] at c
        exact absurd (nI_pos' (by omega)) c
    exact this 1999999
theorem m_throwsIf {b : Bool} {c : Int32} {k : Int32 → sSt → Prop} : F_X12_throwsIf (b2i b) c S k ↔ k (b2i b) (if b then uI S 0 0 0 c else S) := by
  rw [F_X12_throwsIf]
  cases b
  · simp [b2i, bz_0]
  · simp [b2i, bz_1]
end MJ
end PU18
