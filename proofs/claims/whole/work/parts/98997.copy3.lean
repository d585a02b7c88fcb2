section PU44
theorem cp_0 {a b : Nat → Int32} {n f : Nat} (h : f < n) : va_cpy a b 0 0 n f = a f := by
  unfold va_cpy; rw [if_pos (by omega)]; congr 1; omega
section CS
variable {Sc Sc' Sm S' S S1 S2 : sSt} {l sp n t t' : Nat} {w w' : Wd} {π π' : List Nat} {ns np cm nl ns' np' cm' nl' : Nat}
theorem JR.k {q j : Nat} (h : JR S q w j) (h1 : S'.1 21 q = S.1 21 q) (h2 : ∀ d, d < 6 → S'.1 22 (6 * q + d) = S.1 22 (6 * q + d)) : JR S' q w j := h.c h1 (fun d hd => h2 d (by omega)) (fun _ _ _ => rfl)
theorem JZ.k {q j : Nat} (h : JZ S q w j ns) (hj : j < 24) (hn : ns ≤ 4) (h1 : S'.1 21 q = S.1 21 q) (h2 : ∀ d, d < 6 → S'.1 22 (6 * q + d) = S.1 22 (6 * q + d)) : JZ S' q w j ns := h.c hj hn h1 (fun d hd => by rw [Nat.add_assoc]; exact h2 (2 + d) (by omega)) rfl (fun _ _ => rfl) (fun _ _ _ => rfl)
theorem SR.k {s : Nat} (h : SR S t w s) (h1 : S'.1 24 (4 * t + s) = S.1 24 (4 * t + s)) (h2 : ∀ k, 3 ≤ k → k ≤ 8 → S'.1 k (4 * t + s + 1) = S.1 k (4 * t + s + 1)) : SR S' t w s := by
  obtain ⟨a1, a2, a3, a4, a5⟩ := h
  exact ⟨by rw [h1]; exact a1, by rw [h1]; exact a2, by rw [h1]; exact a3, by rw [h1]; exact a4, a5.c h2 (fun _ _ _ => rfl)⟩
/-- what has been copied so far: a jobs, b sessions, c schedules -/
def cI (S S1 : sSt) (t : Nat) (w : Wd) (π : List Nat) (ns a b c : Nat) : Prop := KP t S S1 ∧ S1.2 = S.2 ∧ S1.1 13 t 6 = nI π.length ∧ (∀ x, x < a → JR S1 (S.2 14 t x) w (pl π x) ∧ JZ S1 (S.2 14 t x) w (pl π x) ns) ∧ (∀ s, s < b → SR S1 t w s) ∧ (∀ p, p < c → ∀ f, f < 8 → S1.1 25 (4 * t + p) f = w (1257 + 8 * p + f)) ∧ (∀ a, 9 ≤ a → a ≤ 12 → S1.1 a = S.1 a)
theorem cI.sc {a b c f : Nat} {v : Int32} (h : cI S S1 t w π ns a b c) (hO : zOrd w π) (ha : a ≤ π.length) (hn : ns ≤ 4) (hf : f ≠ 6) : cI S (uI S1 13 t f v) t w π ns a b c := by
  obtain ⟨h1, h2, h3, h4, h5, h6, h9⟩ := h
  refine ⟨h1.i (by unfold ow; omega), h2, by rw [uI_nc (by omega)]; exact h3, fun x hx => ⟨(h4 x hx).1.k (uI_other (by omega)) (fun d _ => uI_other (by omega)), (h4 x hx).2.k (hO.at (by omega)) hn (uI_other (by omega)) (fun d _ => uI_other (by omega))⟩, fun s hs => (h5 s hs).k (uI_other (by omega)) (fun k _ _ => uI_other (by omega)), fun p hp f hf => by rw [uI_other (by omega)]; exact h6 p hp f hf, fun a q1 q2 => by rw [← h9 a q1 q2]; funext b; exact uI_other (by omega)⟩
theorem x_copyJobs (h : zB S t' w π ns np cm nl) (hr : zRef S t) (htt : t ≠ t') {S0 : sSt} (h0 : cI S S0 t w π ns 0 0 0) {k : sSt → Prop} (hk : ∀ S1, cI S S1 t w π ns π.length 0 0 → ∀ S3, S3 = uI S1 13 t 7 (S1.1 13 t' 7) → B_X6_copyFrom_49 fuel t t' 0 S3 k) : B_X6_copyFrom_10 fuel t t' 0 S0 k := by
  have hlen := h.2.1.len
  have hn := h.2.2.1.hns.1
  suffices hh : ∀ r i m (S1 : sSt), i + r = π.length → r < m → cI S S1 t w π ns i 0 0 → B_X6_copyFrom_10 m t t' (nI i) S1 k from hh π.length 0 fuel S0 (by omega) (fuel_gt (by omega)) h0
  intro r
  induction r with
  | zero =>
    intro i m S1 hi hm hI
    obtain ⟨m, rfl⟩ : ∃ z, m = z + 1 := ⟨m - 1, by omega⟩
    have e : i = π.length := by omega
    subst e
    simp only [B_X6_copyFrom_10_s, Bb_X6_copyFrom_10, hI.2.2.1, nI_leI (show π.length < 2147483648 by omega) (show π.length < 2147483648 by omega), Nat.le_refl, true_implies, not_true_eq_false, false_implies, and_true]
    exact hk S1 hI
  | succ r ih =>
    intro i m S1 hi hm hI
    obtain ⟨m, rfl⟩ : ∃ z, m = z + 1 := ⟨m - 1, by omega⟩
    have hil : i < π.length := by omega
    have hlt : ¬ nI π.length ≤ nI i := nI_ge hil (by omega)
    obtain ⟨h1, h2, h3, h4, h5, h6, h9⟩ := hI
    have hq := hr.1 i (by omega)
    have hq' := h.1.ref.1 i (by omega)
    have hne : S.2 14 t i ≠ S.2 14 t' i := fun e => htt (by rw [← hq, ← hq', e])
    have hj4 := h.2.1.at hil
    simp only [B_X6_copyFrom_10_s, Bb_X6_copyFrom_10, h3, hlt, false_implies, true_and, not_false_eq_true, true_implies]
    rw [ix_n (by omega) (by omega), h2]
    have e21 : S1.1 21 (S.2 14 t' i) = S.1 21 (S.2 14 t' i) := h1.1 _ _ (by unfold ow; omega)
    have e22 : ∀ d, d < 6 → S1.1 22 (6 * S.2 14 t' i + d) = S.1 22 (6 * S.2 14 t' i + d) := fun d hd => h1.1 _ _ (by unfold ow; omega)
    have h01 : w (21 + 47 * pl π i + 1) = 0 ∨ w (21 + 47 * pl π i + 1) = 1 := by
      rcases h.2.2.1.job _ hj4 with z | ⟨_, z, _⟩
      · exact absurd z (lie_n (h.2.1.la hil))
      · exact z
    refine x_copyJob hne ((h.1.job i hil).1.k e21 e22) ((h.1.job i hil).2.k hj4 hn e21 e22) hn h01 (fun S2 o2 r2 g1 g2 => ?_)
    rw [forall_eq, show nI i + 1 = nI (i + 1) from nI_1 i]
    refine ih (i + 1) m S2 (by omega) (by omega) ⟨h1.tr ⟨fun a b z => o2 a b (fun y => z (by unfold ow; omega)) (fun y => z (by unfold ow; omega)), fun a b _ => by rw [r2]⟩, r2.trans h2, by rw [o2 _ _ (by omega) (by omega)]; exact h3, fun x hx => ?_, fun s hs => absurd hs (Nat.not_lt_zero s), fun p hp => absurd hp (Nat.not_lt_zero p), fun a q1 q2 => by rw [← h9 a q1 q2]; funext b; exact o2 a b (by omega) (by omega)⟩
    by_cases e : x = i
    · rw [e]; exact ⟨g1, g2⟩
    · have hxi : S.2 14 t x ≠ S.2 14 t i := fun z => e (hr.2 x i (by omega) (by omega) z)
      have f21 : S2.1 21 (S.2 14 t x) = S1.1 21 (S.2 14 t x) := o2 _ _ (by omega) (by omega)
      have f22 : ∀ d, d < 6 → S2.1 22 (6 * S.2 14 t x + d) = S1.1 22 (6 * S.2 14 t x + d) := fun d hd => o2 _ _ (by omega) (by omega)
      obtain ⟨p1, p2⟩ := h4 x (by omega)
      exact ⟨p1.k f21 f22, p2.k (h.2.1.at (by omega)) hn f21 f22⟩
theorem x_copySessions (h : zB S t' w π ns np cm nl) (htt : t ≠ t') {S0 : sSt} (h7 : S0.1 13 t 7 = nI ns) (h0 : cI S S0 t w π ns π.length 0 0) {k : sSt → Prop} (hk : ∀ S1, S1.1 13 t 7 = nI ns → cI S S1 t w π ns π.length ns 0 → ∀ S3, S3 = uI S1 13 t 8 (S1.1 13 t' 8) → B_X6_copyFrom_88 fuel t t' 0 S3 k) : B_X6_copyFrom_49 fuel t t' 0 S0 k := by
  have hn := h.2.2.1.hns.1
  suffices hh : ∀ r i m (S1 : sSt), i + r = ns → r < m → S1.1 13 t 7 = nI ns → cI S S1 t w π ns π.length i 0 → B_X6_copyFrom_49 m t t' (nI i) S1 k from hh ns 0 fuel S0 (by omega) (fuel_gt (by omega)) h7 h0
  intro r
  induction r with
  | zero =>
    intro i m S1 hi hm h7 hI
    obtain ⟨m, rfl⟩ : ∃ z, m = z + 1 := ⟨m - 1, by omega⟩
    have e : i = ns := by omega
    subst e
    simp only [B_X6_copyFrom_49_s, Bb_X6_copyFrom_49, h7, nI_leI (show i < 2147483648 by omega) (show i < 2147483648 by omega), Nat.le_refl, true_implies, not_true_eq_false, false_implies, and_true]
    exact hk S1 h7 hI
  | succ r ih =>
    intro i m S1 hi hm h7 hI
    obtain ⟨m, rfl⟩ : ∃ z, m = z + 1 := ⟨m - 1, by omega⟩
    have hlt : ¬ nI ns ≤ nI i := nI_ge (by omega) (by omega)
    obtain ⟨h1, h2, h3, h4, h5, h6, h9⟩ := hI
    simp only [B_X6_copyFrom_49_s, Bb_X6_copyFrom_49, h7, hlt, false_implies, true_and, not_false_eq_true, true_implies]
    rw [ix_n (by omega) (by omega)]
    have hS : SR S1 t' w i := (h.1.ses i (by omega)).k (h1.1 _ _ (by unfold ow; omega)) (fun k _ _ => h1.1 _ _ (by unfold ow; omega))
    refine x_copySess (t := t) (t' := t') (s := i) (by omega) rfl rfl hS (h.2.2.1.ses i (by omega)).1 (fun S2 o2 r2 g1 => ?_)
    rw [forall_eq, show nI i + 1 = nI (i + 1) from nI_1 i]
    refine ih (i + 1) m S2 (by omega) (by omega) (by rw [o2 _ _ (by omega) (by omega)]; exact h7) ⟨h1.tr ⟨fun a b z => o2 a b (fun y => z (by unfold ow; omega)) (fun y => z (by unfold ow; omega)), fun a b _ => by rw [r2]⟩, r2.trans h2, by rw [o2 _ _ (by omega) (by omega)]; exact h3, fun x hx => ⟨(h4 x hx).1.k (o2 _ _ (by omega) (by omega)) (fun d _ => o2 _ _ (by omega) (by omega)), (h4 x hx).2.k (h.2.1.at hx) hn (o2 _ _ (by omega) (by omega)) (fun d _ => o2 _ _ (by omega) (by omega))⟩, fun s hs => ?_, fun p hp => absurd hp (Nat.not_lt_zero p), fun a q1 q2 => by rw [← h9 a q1 q2]; funext b; exact o2 a b (by omega) (by omega)⟩
    by_cases e : s = i
    · rw [e]; exact g1
    · exact (h5 s (by omega)).k (o2 _ _ (by omega) (by omega)) (fun k _ _ => o2 _ _ (by omega) (by omega))
theorem x_copyPlan {q q' : Nat} (hq : q ≠ q') {k : sSt → Prop} (hk : ∀ S', (∀ a b, ¬ (a = 25 ∧ b = q) → S'.1 a b = S.1 a b) → S'.2 = S.2 → (∀ f, f < 8 → S'.1 25 q f = S.1 25 q' f) → k S') : F_X4_copyFrom q q' S k := by
  have ne : ¬ ((25 : Nat) = 25 ∧ q' = q) := fun z => hq z.2.symm
  rw [F_X4_copyFrom]
  rintro _ rfl _ rfl _ rfl _ rfl _ rfl _ rfl _ rfl _ rfl
  refine hk _ (fun a b z => by simp only [uI_other z]) rfl (fun f hf => ?_)
  simp only [uI_other ne]
  rcases (show f = 0 ∨ f = 1 ∨ f = 2 ∨ f = 3 ∨ f = 4 ∨ f = 5 ∨ f = 6 ∨ f = 7 by omega) with rfl | rfl | rfl | rfl | rfl | rfl | rfl | rfl <;> simp [uI]
theorem x_copyTable (h : zB S t' w π ns np cm nl) (hr : zRef S t) (htt : t ≠ t') {k : sSt → Prop} (hk : ∀ S', zB S' t w π ns np cm nl → KP t S S' → S'.2 = S.2 → (∀ a, 9 ≤ a → a ≤ 12 → S'.1 a = S.1 a) → k S') : F_X6_copyFrom t t' S k := by
  have hlen := h.2.1.len
  have hn := h.2.2.1.hns.1
  have hp := h.2.2.1.hnp.1
  have hl := h.2.2.1.hnl.1
  rw [F_X6_copyFrom]
  rintro S0 e0
  rw [h.1.size] at e0
  refine x_copyJobs h hr htt (S0 := S0) ⟨by rw [e0]; exact KP.rfl.i (by unfold ow; omega), by rw [e0]; rfl, by rw [e0]; exact uI_at, fun x hx => absurd hx (Nat.not_lt_zero x), fun x hx => absurd hx (Nat.not_lt_zero x), fun x hx => absurd hx (Nat.not_lt_zero x), fun a q1 q2 => by rw [e0]; funext b; exact uI_other (by omega)⟩ (fun S1 hI S3 e3 => ?_)
  have s7 : S1.1 13 t' 7 = nI ns := by rw [hI.1.1 13 t' (by unfold ow; omega)]; exact (h.1.sca.1 0 (by omega)).trans h.2.2.1.hns.2
  rw [s7] at e3
  refine x_copySessions h htt (S0 := S3) (by rw [e3]; exact uI_at) (by rw [e3]; exact hI.sc h.2.1 (Nat.le_refl _) hn (by omega)) (fun S4 q7 hI4 S5 e5 => ?_)
  have s8 : S4.1 13 t' 8 = nI np := by rw [hI4.1.1 13 t' (by unfold ow; omega)]; exact (h.1.sca.1 1 (by omega)).trans h.2.2.1.hnp.2
  rw [s8] at e5
  have hI5 : cI S S5 t w π ns π.length ns 0 := by rw [e5]; exact hI4.sc h.2.1 (Nat.le_refl _) hn (by omega)
  have q7' : S5.1 13 t 7 = nI ns := by rw [e5, uI_nc (by omega)]; exact q7
  have q8 : S5.1 13 t 8 = nI np := by rw [e5]; exact uI_at
  suffices hh : ∀ r i m (S1 : sSt), i + r = np → r < m → S1.1 13 t 7 = nI ns → S1.1 13 t 8 = nI np → cI S S1 t w π ns π.length ns i → B_X6_copyFrom_88 m t t' (nI i) S1 k from hh np 0 fuel S5 (by omega) (fuel_gt (by omega)) q7' q8 hI5
  clear hI5 q7' q8 e5 s8 hI4 q7 e3 s7 hI e0 S0 S1 S3 S4 S5
  intro r
  induction r with
  | zero =>
    intro i m S1 hi hm h7 h8 hI
    obtain ⟨m, rfl⟩ : ∃ z, m = z + 1 := ⟨m - 1, by omega⟩
    have e : i = np := by omega
    subst e
    simp only [B_X6_copyFrom_88_s, Bb_X6_copyFrom_88, h8, nI_leI (show i < 2147483648 by omega) (show i < 2147483648 by omega), Nat.le_refl, true_implies, not_true_eq_false, false_implies, and_true]
    obtain ⟨h1, h2, h3, h4, h5, h6, h9⟩ := hI
    rintro S10 e10 S14 e14
    rw [F_X2_copyFrom]
    rintro A4 f4 A5 f5 A6 f6
    rintro B1 g1 B2 g2 B3 g3 B4 g4 B5 g5 B6 g6 B7 g7
    have ne : ∀ a, ¬ ((a : Nat) = a ∧ t' = t) := fun a z => htt z.2.symm
    have src : ∀ a, 13 ≤ a → a ≤ 20 → S1.1 a t' = S.1 a t' := fun a q1 q2 => h1.1 a t' (by unfold ow; omega)
    have oA : ∀ a b, ¬ (a = 17 ∧ b = t) → ¬ (a = 18 ∧ b = t) → ¬ (a = 19 ∧ b = t) → ¬ (a = 20 ∧ b = t) → A6.1 a b = S1.1 a b := fun a b z1 z2 z3 z4 => by
      rw [f6, uI_other z3, f5, uI_other z3, f4, uA_other z4, e14, uA_other z2, e10, uA_other z1]
    have o : ∀ a b, ¬ (a = 17 ∧ b = t) → ¬ (a = 18 ∧ b = t) → ¬ (a = 19 ∧ b = t) → ¬ (a = 20 ∧ b = t) → ¬ (a = 13 ∧ b = t) → B7.1 a b = S1.1 a b := fun a b z1 z2 z3 z4 z5 => by
      rw [g7, uI_other z5, g6, uI_other z5, g5, uI_other z5, g4, uI_other z5, g3, uI_other z5, g2, uI_other z5, g1, uI_other z5]; exact oA a b z1 z2 z3 z4
    have oB : ∀ a b, a ≠ 13 → B7.1 a b = A6.1 a b := fun a b z5 => by
      rw [g7, uI_other (by omega), g6, uI_other (by omega), g5, uI_other (by omega), g4, uI_other (by omega), g3, uI_other (by omega), g2, uI_other (by omega), g1, uI_other (by omega)]
    have c17 : B7.1 17 t = va_cpy (S.1 17 t') (S1.1 17 t) 0 0 6 := by
      rw [oB _ _ (by omega), f6, uI_other (by omega), f5, uI_other (by omega), f4, uA_other (by omega), e14, uA_other (by omega), e10, uA_row, src 17 (by omega) (by omega)]
    have c18 : B7.1 18 t = va_cpy (S.1 18 t') (S1.1 18 t) 0 0 5 := by
      rw [oB _ _ (by omega), f6, uI_other (by omega), f5, uI_other (by omega), f4, uA_other (by omega), e14, uA_row, e10, uA_other (by omega), uA_other (by omega), src 18 (by omega) (by omega)]
    have c20 : B7.1 20 t = va_cpy (S.1 20 t') (S1.1 20 t) 0 0 300 := by
      rw [oB _ _ (by omega), f6, uI_other (by omega), f5, uI_other (by omega), f4, uA_row, e14, uA_other (by omega), uA_other (by omega), e10, uA_other (by omega), uA_other (by omega), src 20 (by omega) (by omega)]
    have n4 : A4.1 19 t' = S.1 19 t' := by rw [f4, uA_other (by omega), e14, uA_other (by omega), e10, uA_other (by omega)]; exact src 19 (by omega) (by omega)
    have c19 : B7.1 19 t 1 = S.1 19 t' 1 ∧ B7.1 19 t 2 = S.1 19 t' 2 := by
      rw [oB _ _ (by omega)]
      refine ⟨by rw [f6, uI_nc (by omega), f5, uI_at, n4], by rw [f6, uI_at, f5, uI_other (by omega), n4]⟩
    have n13 : A6.1 13 t' = S.1 13 t' := by rw [oA _ _ (by omega) (by omega) (by omega) (by omega)]; exact src 13 (by omega) (by omega)
    have n13' : A6.1 13 t = S1.1 13 t := oA _ _ (by omega) (by omega) (by omega) (by omega)
    have c13 : ∀ f, B7.1 13 t f = if 9 ≤ f ∧ f ≤ 15 then S.1 13 t' f else S1.1 13 t f := by
      have z5 : ¬ ((13 : Nat) = 13 ∧ t' = t) := ne 13
      intro f
      by_cases c : 9 ≤ f ∧ f ≤ 15
      · rw [if_pos c, ← n13]
        rcases (show f = 9 ∨ f = 10 ∨ f = 11 ∨ f = 12 ∨ f = 13 ∨ f = 14 ∨ f = 15 by omega) with rfl | rfl | rfl | rfl | rfl | rfl | rfl
        all_goals rw [g7, g6, g5, g4, g3, g2, g1]
        all_goals simp only [uI_other z5]
        all_goals simp [uI]
      · rw [if_neg c, ← n13', g7, uI_nc (by omega), g6, uI_nc (by omega), g5, uI_nc (by omega), g4, uI_nc (by omega), g3, uI_nc (by omega), g2, uI_nc (by omega), g1, uI_nc (by omega)]
    have r7 : B7.2 = S.2 := by rw [g7, g6, g5, g4, g3, g2, g1, f6, f5, f4, e14, e10]; exact h2
    have kp : KP t S B7 := h1.tr ⟨fun a b z => o a b (fun y => z (by unfold ow; omega)) (fun y => z (by unfold ow; omega)) (fun y => z (by unfold ow; omega)) (fun y => z (by unfold ow; omega)) (fun y => z (by unfold ow; omega)), fun a b _ => by rw [r7, h2]⟩
    refine hk B7 ⟨⟨by rw [c13, if_neg (by omega)]; exact h3, by unfold zRef; rw [r7]; exact hr, fun x hx => ?_, ⟨fun f hf => ?_, fun f hf => ?_, fun f hf => ?_⟩, fun s hs => (h5 s hs).k (o _ _ (by omega) (by omega) (by omega) (by omega) (by omega)) (fun k _ _ => o _ _ (by omega) (by omega) (by omega) (by omega) (by omega)), fun p hp f hf => ?_, ?_⟩, h.2.1, h.2.2.1, h.2.2.2⟩ kp r7 (fun a q1 q2 => by rw [← h9 a q1 q2]; funext b; exact o a b (by omega) (by omega) (by omega) (by omega) (by omega))
    · rw [r7]
      exact ⟨(h4 x hx).1.k (o _ _ (by omega) (by omega) (by omega) (by omega) (by omega)) (fun d _ => o _ _ (by omega) (by omega) (by omega) (by omega) (by omega)), (h4 x hx).2.k (h.2.1.at hx) hn (o _ _ (by omega) (by omega) (by omega) (by omega) (by omega)) (fun d _ => o _ _ (by omega) (by omega) (by omega) (by omega) (by omega))⟩
    · rw [c13]
      by_cases c0 : f = 0
      · rw [if_neg (by omega), c0]; exact h7.trans h.2.2.1.hns.2.symm
      by_cases c1 : f = 1
      · rw [if_neg (by omega), c1]; exact h8.trans h.2.2.1.hnp.2.symm
      rw [if_pos (by omega)]; exact h.1.sca.1 f hf
    · rw [c18, cp_0 hf]; exact h.1.sca.2.1 f hf
    · rw [c17, cp_0 hf]; exact h.1.sca.2.2 f hf
    · rw [o _ _ (by omega) (by omega) (by omega) (by omega) (by omega)]; exact h6 p hp f hf
    · obtain ⟨x, a, b, c, d, e⟩ := h.1.log
      refine ⟨x, a, by rw [c19.1]; exact b, by rw [c19.2]; exact c, d, fun c' hc f hf => ?_⟩
      rw [c20, cp_0 (by omega)]; exact e c' hc f hf
  | succ r ih =>
    intro i m S1 hi hm h7 h8 hI
    obtain ⟨m, rfl⟩ : ∃ z, m = z + 1 := ⟨m - 1, by omega⟩
    have hlt : ¬ nI np ≤ nI i := nI_ge (by omega) (by omega)
    obtain ⟨h1, h2, h3, h4, h5, h6, h9⟩ := hI
    simp only [B_X6_copyFrom_88_s, Bb_X6_copyFrom_88, h8, hlt, false_implies, true_and, not_false_eq_true, true_implies]
    rw [ix_n (by omega) (by omega)]
    refine x_copyPlan (show 4 * t + i ≠ 4 * t' + i by omega) (fun S2 o2 r2 g1 => ?_)
    rw [forall_eq, show nI i + 1 = nI (i + 1) from nI_1 i]
    refine ih (i + 1) m S2 (by omega) (by omega) (by rw [o2 _ _ (by omega)]; exact h7) (by rw [o2 _ _ (by omega)]; exact h8) ⟨h1.tr ⟨fun a b z => o2 a b (fun y => z (by unfold ow; omega)), fun a b _ => by rw [r2]⟩, r2.trans h2, by rw [o2 _ _ (by omega)]; exact h3, fun x hx => ⟨(h4 x hx).1.k (o2 _ _ (by omega)) (fun d _ => o2 _ _ (by omega)), (h4 x hx).2.k (h.2.1.at hx) hn (o2 _ _ (by omega)) (fun d _ => o2 _ _ (by omega))⟩, fun s hs => (h5 s hs).k (o2 _ _ (by omega)) (fun k _ _ => o2 _ _ (by omega)), fun p hp f hf => ?_, fun a q1 q2 => by rw [← h9 a q1 q2]; funext b; exact o2 a b (by omega)⟩
    by_cases e : p = i
    · rw [e, g1 f hf, h1.1 25 _ (by unfold ow; omega)]
      exact h.1.pln i (by omega) f hf
    · rw [o2 _ _ (by omega)]; exact h6 p (by omega) f hf
end CS
end PU44
