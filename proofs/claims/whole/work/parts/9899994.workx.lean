section PU60
/-! CALL work: the class -/
section CS
variable {Sc Sc' Sm S S' : sSt} {w : Wd} {d : Nat → Nat → Nat} {I : Nat → Bool} {β : Nat → Nat} {t j l sp n ns np cm nl mo u : Nat} {π : List Nat}
/-- what of the table stays as it is while work goes on -/
def WC (S : sSt) (t : Nat) (π : List Nat) (d : Nat → Nat → Nat) (I : Nat → Bool) (mo : Nat) : Prop := S.1 13 t 6 = nI π.length ∧ S.1 13 t 10 = nI mo ∧ (∀ g, g < 6 → S.1 17 t g = nI (d 4 g)) ∧ ∀ i, i < π.length → S.1 21 (S.2 14 t i) 6 = nI (d 3 (pl π i)) ∧ (I (pl π i) = true → S.1 21 (S.2 14 t i) 7 = nI (d 2 (pl π i)) ∧ S.1 21 (S.2 14 t i) 9 = nI (d 0 (pl π i)) ∧ S.1 22 (6 * S.2 14 t i) 1 = nI (d 1 (pl π i)))
/-- how the states tell β at the time u -/
def WR (S : sSt) (t : Nat) (π : List Nat) (d : Nat → Nat → Nat) (β : Nat → Nat) (u : Nat) : Prop := ∀ i, i < π.length → (β (pl π i) = 0 → S.1 22 (6 * S.2 14 t i) 0 ≠ 0 ∧ S.1 22 (6 * S.2 14 t i) 0 ≠ 1) ∧ (β (pl π i) = 1 → S.1 22 (6 * S.2 14 t i) 0 = 0) ∧ (2 ≤ β (pl π i) → (u < β (pl π i) - 2 + d 0 (pl π i) → S.1 22 (6 * S.2 14 t i) 0 = 1 ∧ S.1 22 (6 * S.2 14 t i) 7 = nI (β (pl π i) - 2 + d 0 (pl π i))) ∧ (β (pl π i) - 2 + d 0 (pl π i) ≤ u → S.1 22 (6 * S.2 14 t i) 0 = 2))
/-- only states and untils of tabled versions of this table have changed -/
def WK (t : Nat) (π : List Nat) (S S' : sSt) : Prop := KP t S S' ∧ S'.2 = S.2 ∧ (∀ a, a ≠ 22 → S'.1 a = S.1 a) ∧ ∀ i, i < π.length → S'.1 22 (6 * S.2 14 t i) 1 = S.1 22 (6 * S.2 14 t i) 1
theorem WK.rfl : WK t π S S := ⟨KP.rfl, Eq.refl _, fun _ _ => Eq.refl _, fun _ _ => Eq.refl _⟩
theorem WK.tr {S1 : sSt} (h : WK t π S S1) (g : WK t π S1 S') : WK t π S S' := ⟨h.1.tr g.1, g.2.1.trans h.2.1, fun a q => (g.2.2.1 a q).trans (h.2.2.1 a q), fun i hi => by
  have := g.2.2.2 i hi
  rw [h.2.1] at this
  exact this.trans (h.2.2.2 i hi)⟩
theorem WC.k (h : WC S t π d I mo) (g : WK t π S S') : WC S' t π d I mo := by
  obtain ⟨a, b, c, e⟩ := h
  obtain ⟨-, g2, g3, g4⟩ := g
  refine ⟨by rw [g3 13 (by omega)]; exact a, by rw [g3 13 (by omega)]; exact b, fun x hx => by rw [g3 17 (by omega)]; exact c x hx, fun i hi => ?_⟩
  rw [g2, g3 21 (by omega), g4 i hi]
  exact e i hi
/-- one state or until is set -/
theorem WK.i (hr : zRef S t) (hlen : π.length ≤ 24) {i f : Nat} {v : Int32} (hi : i < π.length) (hf : f ≠ 1) : WK t π S (uI S 22 (6 * S.2 14 t i) f v) := by
  have := hr.1 i (by omega)
  refine ⟨KP.rfl.i (by unfold ow; omega), Eq.refl _, fun a q => funext fun b => uI_other (by omega), fun i' hi' => uI_nc (by omega)⟩
theorem zRef.k (h : zRef S t) (g : S'.2 = S.2) : zRef S' t := by unfold zRef; rw [g]; exact h
theorem q_ne (hr : zRef S t) (hlen : π.length ≤ 24) {i i' : Nat} (hi : i < π.length) (hi' : i' < π.length) (h : i' ≠ i) : S.2 14 t i' ≠ S.2 14 t i := fun e => h (hr.2 i' i (by omega) (by omega) e)
/-- what waits -/
def wI (w : Wd) (j : Nat) : Bool := isin w j && !decide (1 < w (21 + 47 * j + 3 + 3))
def wd (w : Wd) (h : Nat) : Nat → Nat → Nat
  | 0, j => if wI w j = true then (w (21 + 47 * j + 3 + 2)).toNatClampNeg else 1
  | 1, j => if wI w j = true then (if w (21 + 47 * j + 3 + 3) = 1 then w 3 else w (21 + 47 * j + 3 + 5)).toNatClampNeg else 0
  | 2, j => if wI w j = true then (w (21 + 47 * j + 3)).toNatClampNeg else 0
  | 3, j => (num w j).toNatClampNeg
  | 4, g => (w (15 + g)).toNatClampNeg
  | _ + 5, _ => h
def wb0 (w : Wd) (j : Nat) : Nat := if wI w j = true then 1 else 0
theorem wd_ok (hW : WF w ns np cm nl) (h : Nat) : WDF w (wd w h) (wI w) := by
  obtain ⟨mo, hmo, emo⟩ := hW.mono
  have hcm := hW.hcm.1
  refine ⟨⟨fun j hj hl => ?_, fun g hg => ?_⟩, fun j hj hI => ?_⟩
  · obtain ⟨x, x1, x2⟩ := hW.nu hj hl
    have e : wd w h 3 j = x := by show (num w j).toNatClampNeg = x; rw [x2]; exact nI_clamp (by omega)
    rw [e]; exact ⟨x2, by omega⟩
  · obtain ⟨c, c1, c4, c2⟩ := hW.par g hg
    have e : wd w h 4 g = c := by show (w (15 + g)).toNatClampNeg = c; rw [c2]; exact nI_clamp (by omega)
    rw [e]; exact ⟨c2, c1, c4⟩
  · have hin : isin w j = true := by
      have := hI
      unfold wI at this
      rw [Bool.and_eq_true] at this
      exact this.1
    rcases hW.job j hj with z | ⟨-, -, -, -, q4, -⟩
    · exact absurd z (lie_n (isin_lie hin))
    · obtain ⟨⟨g, g6, eg⟩, ⟨c, c1, c9, ec⟩, ⟨x, x4, ex⟩, ⟨du, d1, ed⟩, -⟩ := q4 (isin_1 hin)
      have e0 : wd w h 0 j = c := by show (if wI w j = true then (w (21 + 47 * j + 3 + 2)).toNatClampNeg else 1) = c; rw [if_pos hI, ec]; exact nI_clamp (by omega)
      have e2 : wd w h 2 j = g := by show (if wI w j = true then (w (21 + 47 * j + 3)).toNatClampNeg else 0) = g; rw [if_pos hI, eg]; exact nI_clamp (by omega)
      have e1 : ∃ y, y ≤ 10107 ∧ wd w h 1 j = y ∧ (if w (21 + 47 * j + 3 + 3) = 1 then w 3 else w (21 + 47 * j + 3 + 5)) = nI y := by
        by_cases z : w (21 + 47 * j + 3 + 3) = 1
        · refine ⟨mo, by omega, ?_, by rw [if_pos z]; exact emo⟩
          show (if wI w j = true then (if w (21 + 47 * j + 3 + 3) = 1 then w 3 else w (21 + 47 * j + 3 + 5)).toNatClampNeg else 0) = mo
          rw [if_pos hI, if_pos z, emo]; exact nI_clamp (by omega)
        · refine ⟨du, d1, ?_, by rw [if_neg z]; exact ed⟩
          show (if wI w j = true then (if w (21 + 47 * j + 3 + 3) = 1 then w 3 else w (21 + 47 * j + 3 + 5)).toNatClampNeg else 0) = du
          rw [if_pos hI, if_neg z, ed]; exact nI_clamp (by omega)
      obtain ⟨y, y1, y2, y3⟩ := e1
      rw [e0, e2, y2]
      exact ⟨isin_lie hin, ec, c1, c9, eg, g6, y1, y3⟩
theorem wd_b (hW : WF w ns np cm nl) (h : Nat) : (∀ j, j < 24 → 1 ≤ wd w h 4 (wd w h 2 j)) ∧ (∀ j, j < 24 → 1 ≤ wd w h 0 j) ∧ (∀ j, j < 24 → wd w h 0 j ≤ 9) ∧ (∀ j, j < 24 → wd w h 1 j ≤ 10107) := by
  have hD := wd_ok hW h
  have no : ∀ j, wI w j ≠ true → wd w h 0 j = 1 ∧ wd w h 1 j = 0 ∧ wd w h 2 j = 0 := fun j hj => ⟨if_neg hj, if_neg hj, if_neg hj⟩
  refine ⟨fun j hj => ?_, fun j hj => ?_, fun j hj => ?_, fun j hj => ?_⟩ <;> by_cases c : wI w j = true
  · exact (hD.1.2 _ (hD.2 j hj c).2.2.2.2.2.1).2.1
  · rw [(no j c).2.2]; exact (hD.1.2 0 (by omega)).2.1
  · exact (hD.2 j hj c).2.2.1
  · rw [(no j c).1]; exact Nat.le_refl _
  · exact (hD.2 j hj c).2.2.2.1
  · rw [(no j c).1]; omega
  · exact (hD.2 j hj c).2.2.2.2.2.2.1
  · rw [(no j c).2.1]; omega
/-- prepare: what doesn't wait is done -/
theorem x_prepare (h : zB S t w π ns np cm nl) (hm : w 3 = nI mo) {hh : Nat} {k : sSt → Prop} (hk : ∀ S', WC S' t π (wd w hh) (wI w) mo → WR S' t π (wd w hh) (wb0 w) u → KP t S S' → S'.2 = S.2 → k S') : F_X10_prepare t S k := by
  have hlen := h.2.1.len
  have hW := h.2.2.1
  have hr := h.1.ref
  have c10 : S.1 13 t 10 = nI mo := (h.1.sca.1 3 (by omega)).trans hm
  obtain ⟨hN, hF⟩ := wd_ok hW hh
  rw [F_X10_prepare]
  suffices hl : ∀ r i m (S1 : sSt), i + r = π.length → r < m → KP t S S1 → S1.2 = S.2 → (∀ a, a ≠ 22 → S1.1 a = S.1 a) → (∀ y, i ≤ y → y < π.length → S1.1 22 (6 * S.2 14 t y) = S.1 22 (6 * S.2 14 t y)) → (∀ y, y < i → (wI w (pl π y) = true → S1.1 22 (6 * S.2 14 t y) 0 = 0 ∧ S1.1 22 (6 * S.2 14 t y) 1 = nI (wd w hh 1 (pl π y))) ∧ (¬ wI w (pl π y) = true → S1.1 22 (6 * S.2 14 t y) 0 ≠ 0 ∧ S1.1 22 (6 * S.2 14 t y) 0 ≠ 1)) → B_X10_prepare_2 m t (nI i) S1 k from
    hl π.length 0 fuel S (by omega) (fuel_gt (by omega)) KP.rfl rfl (fun _ _ => rfl) (fun _ _ _ => rfl) (fun y hy => absurd hy (Nat.not_lt_zero y))
  intro r
  induction r with
  | zero =>
    intro i m S1 hi hm' kp r2 o _ hy
    obtain ⟨m, rfl⟩ : ∃ z, m = z + 1 := ⟨m - 1, by omega⟩
    have e : i = π.length := by omega
    subst e
    simp only [B_X10_prepare_2_s, Bb_X10_prepare_2, o 13 (by omega), h.1.size, nI_leI (show π.length < 2147483648 by omega) (show π.length < 2147483648 by omega), Nat.le_refl, true_implies, not_true_eq_false, false_implies, and_true]
    refine hk S1 ⟨by rw [o 13 (by omega)]; exact h.1.size, by rw [o 13 (by omega)]; exact c10, fun g hg => by rw [o 17 (by omega), h.1.sca.2.2 g hg]; exact (hN.2 g hg).1, fun y hy' => ?_⟩ (fun y hy' => ?_) kp r2
    · rw [r2, o 21 (by omega)]
      have hj4 := h.2.1.at hy'
      have hly := h.2.1.la hy'
      refine ⟨(x_num h.1 hy').trans (hN.1 _ hj4 hly).1, fun hI => ?_⟩
      obtain ⟨-, h0, -, -, h2, -, -, -⟩ := hF _ hj4 hI
      have hin : w (21 + 47 * pl π y + 1) = 1 := by
        have := hI
        unfold wI at this
        rw [Bool.and_eq_true] at this
        exact isin_1 this.1
      have v := (h.1.job y hy').1.2.2.2.1 hin
      exact ⟨(v 0 (by omega)).trans h2, (v 2 (by omega)).trans h0, ((hy y hy').1 hI).2⟩
    · rw [r2]
      unfold wb0
      by_cases c : wI w (pl π y) = true
      · rw [if_pos c]; exact ⟨fun q => absurd q (by omega), fun _ => ((hy y hy').1 c).1, fun q => absurd q (by omega)⟩
      · rw [if_neg c]; exact ⟨fun _ => (hy y hy').2 c, fun q => absurd q (by omega), fun q => absurd q (by omega)⟩
  | succ r ih =>
    intro i m S1 hi hm' kp r2 o hrow hy
    obtain ⟨m, rfl⟩ : ∃ z, m = z + 1 := ⟨m - 1, by omega⟩
    have hil : i < π.length := by omega
    have hj4 := h.2.1.at hil
    have hq := hr.1 i (by omega)
    have hlt : ¬ nI π.length ≤ nI i := nI_ge hil (by omega)
    have e5 : S1.1 21 (S.2 14 t i) 5 = w (21 + 47 * pl π i + 1) := by rw [o 21 (by omega)]; exact (h.1.job i hil).1.2.1
    have ne : ∀ y, y < π.length → y ≠ i → 6 * S.2 14 t y ≠ 6 * S.2 14 t i := fun y hy' hne => by have := q_ne hr hlen hil hy' hne; omega
    have next : ∀ S2 : sSt, (∀ a b, ¬ (a = 22 ∧ b = 6 * S.2 14 t i) → S2.1 a b = S1.1 a b) → S2.2 = S1.2 → ((wI w (pl π i) = true → S2.1 22 (6 * S.2 14 t i) 0 = 0 ∧ S2.1 22 (6 * S.2 14 t i) 1 = nI (wd w hh 1 (pl π i))) ∧ (¬ wI w (pl π i) = true → S2.1 22 (6 * S.2 14 t i) 0 ≠ 0 ∧ S2.1 22 (6 * S.2 14 t i) 0 ≠ 1)) → B_X10_prepare_58 (fun a0 a1 S => B_X10_prepare_2 m a0 a1 S k) t (nI i) S2 k := by
      intro S2 o2 rr hh2
      rw [B_X10_prepare_58, forall_eq, nI_1]
      refine ih (i + 1) m S2 (by omega) (by omega) (kp.tr ⟨fun a b z => o2 a b (fun y => z (by unfold ow; omega)), fun a b _ => by rw [rr]⟩) (rr.trans r2) (fun a ha => funext fun b => by rw [o2 a b (by omega), o a ha]) (fun y y1 y2 => by rw [o2 _ _ (fun z => ne y y2 (by omega) z.2)]; exact hrow y (by omega) y2) (fun y y1 => ?_)
      by_cases e : y = i
      · rw [e]; exact hh2
      · rw [o2 _ _ (fun z => ne y (by omega) e z.2)]; exact hy y (by omega)
    have row := hrow i (Nat.le_refl i) hil
    simp only [B_X10_prepare_2_s, Bb_X10_prepare_2, o 13 (by omega), h.1.size, hlt, false_implies, true_and, not_false_eq_true, true_implies]
    rw [ix_n (by omega) (by omega), r2, e5]
    have hjob := hW.job _ hj4
    have hlie := h.2.1.la hil
    rcases hjob with z | ⟨-, hin01, -, -, hv, -⟩
    · exact absurd z (lie_n hlie)
    · rcases hin01 with h0 | h1
      · have nI0 : ¬ wI w (pl π i) = true := fun q => by
          unfold wI isin at q
          rw [h0] at q
          simp at q
        refine ⟨fun q => absurd h0 q, fun _ => ?_⟩
        rintro S13 rfl
        rw [B_X10_prepare_37, uI_at]
        refine ⟨fun _ => next _ (fun a b z => uI_other z) rfl ⟨fun q => absurd q nI0, fun _ => by rw [uI_at]; exact ⟨by decide, by decide⟩⟩, fun q => absurd q (by decide)⟩
      · have hin : isin w (pl π i) = true := by unfold isin; rw [show (decide (num w (pl π i) ≠ -1)) = true from hlie, h1]; rfl
        have v := (h.1.job i hil).1.2.2.2.1 h1
        have s0 : S1.1 22 (6 * S.2 14 t i) 0 = w (21 + 47 * pl π i + 3 + 3) := by rw [row]; exact v 3 (by omega)
        have s1 : S1.1 22 (6 * S.2 14 t i) 1 = w (21 + 47 * pl π i + 3 + 5) := by rw [row]; exact v 5 (by omega)
        obtain ⟨-, -, ⟨x, x4, ex⟩, -⟩ := hv h1
        have eI : wI w (pl π i) = !decide (1 < w (21 + 47 * pl π i + 3 + 3)) := by unfold wI; rw [hin, Bool.true_and]
        refine ⟨fun _ => ?_, fun q => absurd q (by rw [h1]; decide)⟩
        rw [B_X10_prepare_37, s0]
        refine ⟨fun c => ?_, fun c => ?_⟩
        · refine next S1 (fun _ _ _ => rfl) rfl ⟨fun q => ?_, fun q => ?_⟩
          · have hd := (hF _ hj4 q).2.2.2.2.2.2.2
            rw [if_neg c] at hd
            refine ⟨?_, s1.trans hd⟩
            rw [s0, ex]
            rw [eI, ex] at q
            rw [ex] at c
            rcases (show x = 0 ∨ x = 1 ∨ x = 2 ∨ x = 3 by omega) with rfl | rfl | rfl | rfl
            · rfl
            · exact absurd rfl c
            · exact absurd q (by decide)
            · exact absurd q (by decide)
          · rw [s0, ex]
            rw [eI, ex] at q
            rcases (show x = 0 ∨ x = 1 ∨ x = 2 ∨ x = 3 by omega) with rfl | rfl | rfl | rfl
            · exact absurd (by decide) q
            · exact absurd (by decide) q
            · exact ⟨by decide, by decide⟩
            · exact ⟨by decide, by decide⟩
        · rintro S11 rfl S12 rfl
          have hI : wI w (pl π i) = true := by rw [eI, c]; rfl
          refine next _ (fun a b z => by rw [uI_other z, uI_other z]) rfl ⟨fun _ => ?_, fun q => absurd hI q⟩
          have hd := (hF _ hj4 hI).2.2.2.2.2.2.2
          rw [if_pos c] at hd
          refine ⟨by rw [uI_nc (by omega), uI_at], ?_⟩
          rw [uI_at, uI_other (by omega), o 13 (by omega), c10, ← hm]
          exact hd
/-- counts by places -/
theorem x_inState (hC : WC S t π d I mo) (hO : zOrd w π) {s : Int32} {P : Nat → Bool} (hP : ∀ i, i < π.length → (S.1 22 (6 * S.2 14 t i) 0 = s ↔ P (pl π i) = true)) (hl : ∀ j, j < 24 → lie w j = false → P j = false) {k : Int32 → sSt → Prop} : F_X10_inState t s S k ↔ k (nI ((List.range' 0 24).countP P)) S := by
  have hlen := hO.len
  have e : (List.range' 0 24).countP P = (List.range' 0 π.length).countP (fun i => P (pl π i)) := by
    rw [cnt_pl π P, hO.cnt]
    refine List.countP_congr (fun j hj => ?_)
    rw [List.mem_range'_1] at hj
    cases c : lie w j
    · rw [hl j (by omega) c]; simp
    · simp
  rw [F_X10_inState, e]
  refine lp_sum0 (L := fun m c i => B_X10_inState_4 m t s c i S k) (K := fun c => k c S) (fun i => P (pl π i)) (fuel_gt (by omega)) (fun m c => ?_) (fun m c i hi => ?_)
  · simp only [B_X10_inState_4_s, Bb_X10_inState_4, hC.1, nI_leI (show π.length < 2147483648 by omega) (show π.length < 2147483648 by omega), Nat.le_refl, true_implies, not_true_eq_false, false_implies, and_true]
  · have h : ¬ nI π.length ≤ nI i := nI_ge hi (by omega)
    simp only [B_X10_inState_4_s, Bb_X10_inState_4, B_X10_inState_34, hC.1, h, false_implies, true_and, not_false_eq_true, true_implies]
    rw [ix_n (by omega) (by omega)]
    by_cases c : S.1 22 (6 * S.2 14 t i) 0 = s
    · have := (hP i hi).mp c
      simp [c, this, b2i, nI_1]
    · have : P (pl π i) = false := by
        cases q : P (pl π i)
        · rfl
        · exact absurd ((hP i hi).mpr q) c
      simp [c, this, b2i, nI_1]
theorem x_wait (hC : WC S t π d I mo) (hR : WR S t π d β u) (hO : zOrd w π) (hβ : ∀ j, j < 24 → β j ≠ 0 → lie w j = true) {k : Int32 → sSt → Prop} : F_X10_inState t 0 S k ↔ k (nI (wtg β)) S :=
  x_inState hC hO (P := fun i => decide (β i = 1)) (fun i hi => by
    obtain ⟨a, b, c⟩ := hR i hi
    rw [decide_eq_true_eq]
    refine ⟨fun q => ?_, b⟩
    rcases bv_c (β (pl π i)) with z | z | ⟨y, z⟩
    · exact absurd q (a z).1
    · exact z
    · have c' := c (by omega)
      rcases Nat.lt_or_ge u (β (pl π i) - 2 + d 0 (pl π i)) with x | x
      · rw [(c'.1 x).1] at q; exact absurd q (by decide)
      · rw [c'.2 x] at q; exact absurd q (by decide)) (fun j hj hl => by
    rw [decide_eq_false_iff_not]
    intro q
    have := hβ j hj (by omega)
    rw [hl] at this; exact absurd this (by decide))
theorem x_held (hC : WC S t π d I mo) (hR : WR S t π d β u) (hb : btm β u) (hO : zOrd w π) (hβ : ∀ j, j < 24 → β j ≠ 0 → lie w j = true) {k : Int32 → sSt → Prop} : F_X10_inState t 1 S k ↔ k (nI (wrk d β u)) S :=
  x_inState hC hO (P := atw d β u) (fun i hi => by
    obtain ⟨a, b, c⟩ := hR i hi
    unfold atw
    simp only [Bool.and_eq_true, decide_eq_true_eq]
    refine ⟨fun q => ?_, fun q => ((c q.1.1).1 q.2).1⟩
    rcases bv_c (β (pl π i)) with z | z | ⟨y, z⟩
    · exact absurd q (a z).2
    · rw [b z] at q; exact absurd q (by decide)
    · have c' := c (by omega)
      have hb' := hb (pl π i) (by omega)
      rcases Nat.lt_or_ge u (β (pl π i) - 2 + d 0 (pl π i)) with x | x
      · exact ⟨⟨by omega, hb'⟩, x⟩
      · rw [c'.2 x] at q; exact absurd q (by decide)) (fun j hj hl => by
    cases q : atw d β u j
    · rfl
    · unfold atw at q
      simp only [Bool.and_eq_true, decide_eq_true_eq] at q
      have := hβ j hj (by omega)
      rw [hl] at this; exact absurd this (by decide))
/-- those that are through are done -/
theorem x_endDone (hr : zRef S t) (hlen : π.length ≤ 24) (hC : WC S t π d I mo) (hR : WR S t π d β u) {v : Nat} (huv : u ≤ v) (hv : v < 2000000) (hβ : ∀ i, i < π.length → β (pl π i) - 2 + d 0 (pl π i) < 2000000) {k : sSt → Prop} (hk : ∀ S', WR S' t π d β v → WK t π S S' → k S') : F_X10_endDone t (nI v) S k := by
  rw [F_X10_endDone]
  suffices hl : ∀ r i m (S1 : sSt), i + r = π.length → r < m → WK t π S S1 → (∀ y, i ≤ y → y < π.length → S1.1 22 (6 * S.2 14 t y) = S.1 22 (6 * S.2 14 t y)) → (∀ y, y < i → (β (pl π y) = 0 → S1.1 22 (6 * S.2 14 t y) 0 ≠ 0 ∧ S1.1 22 (6 * S.2 14 t y) 0 ≠ 1) ∧ (β (pl π y) = 1 → S1.1 22 (6 * S.2 14 t y) 0 = 0) ∧ (2 ≤ β (pl π y) → (v < β (pl π y) - 2 + d 0 (pl π y) → S1.1 22 (6 * S.2 14 t y) 0 = 1 ∧ S1.1 22 (6 * S.2 14 t y) 7 = nI (β (pl π y) - 2 + d 0 (pl π y))) ∧ (β (pl π y) - 2 + d 0 (pl π y) ≤ v → S1.1 22 (6 * S.2 14 t y) 0 = 2))) → B_X10_endDone_2 m t (nI v) (nI i) S1 k from
    hl π.length 0 fuel S (by omega) (fuel_gt (by omega)) WK.rfl (fun _ _ _ => rfl) (fun y hy => absurd hy (Nat.not_lt_zero y))
  intro r
  induction r with
  | zero =>
    intro i m S1 hi hm kp _ hy
    obtain ⟨m, rfl⟩ : ∃ z, m = z + 1 := ⟨m - 1, by omega⟩
    have e : i = π.length := by omega
    subst e
    have c6 := (hC.k kp).1
    simp only [B_X10_endDone_2_s, Bb_X10_endDone_2, c6, nI_leI (show π.length < 2147483648 by omega) (show π.length < 2147483648 by omega), Nat.le_refl, true_implies, not_true_eq_false, false_implies, and_true]
    refine hk S1 (fun y hy' => ?_) kp
    rw [kp.2.1]; exact hy y hy'
  | succ r ih =>
    intro i m S1 hi hm kp hrow hy
    obtain ⟨m, rfl⟩ : ∃ z, m = z + 1 := ⟨m - 1, by omega⟩
    have hil : i < π.length := by omega
    have c6 := (hC.k kp).1
    have hlt : ¬ nI π.length ≤ nI i := nI_ge hil (by omega)
    have ne : ∀ y, y < π.length → y ≠ i → 6 * S.2 14 t y ≠ 6 * S.2 14 t i := fun y hy' hne => by have := q_ne hr hlen hil hy' hne; omega
    have row := hrow i (Nat.le_refl i) hil
    have hRi := hR i hil
    have hbi := hβ i hil
    have next : ∀ S2 : sSt, (∀ a b, ¬ (a = 22 ∧ b = 6 * S.2 14 t i) → S2.1 a b = S1.1 a b) → WK t π S1 S2 → ((β (pl π i) = 0 → S2.1 22 (6 * S.2 14 t i) 0 ≠ 0 ∧ S2.1 22 (6 * S.2 14 t i) 0 ≠ 1) ∧ (β (pl π i) = 1 → S2.1 22 (6 * S.2 14 t i) 0 = 0) ∧ (2 ≤ β (pl π i) → (v < β (pl π i) - 2 + d 0 (pl π i) → S2.1 22 (6 * S.2 14 t i) 0 = 1 ∧ S2.1 22 (6 * S.2 14 t i) 7 = nI (β (pl π i) - 2 + d 0 (pl π i))) ∧ (β (pl π i) - 2 + d 0 (pl π i) ≤ v → S2.1 22 (6 * S.2 14 t i) 0 = 2))) → B_X10_endDone_41 (fun a0 a1 a2 S => B_X10_endDone_2 m a0 a1 a2 S k) t (nI v) (nI i) S2 k := by
      intro S2 o2 k2 hh2
      rw [B_X10_endDone_41, forall_eq, nI_1]
      refine ih (i + 1) m S2 (by omega) (by omega) (kp.tr k2) (fun y y1 y2 => by rw [o2 _ _ (fun z => ne y y2 (by omega) z.2)]; exact hrow y (by omega) y2) (fun y y1 => ?_)
      by_cases e : y = i
      · rw [e]; exact hh2
      · rw [o2 _ _ (fun z => ne y (by omega) e z.2)]; exact hy y (by omega)
    simp only [B_X10_endDone_2_s, Bb_X10_endDone_2, c6, hlt, false_implies, true_and, not_false_eq_true, true_implies]
    rw [ix_n (by omega) (by omega), kp.2.1, row]
    refine ⟨fun c => ?_, fun c => ?_⟩
    · refine next S1 (fun _ _ _ => rfl) WK.rfl ?_
      rw [row]
      refine ⟨hRi.1, hRi.2.1, fun q => ?_⟩
      have h2 := hRi.2.2 q
      rcases Nat.lt_or_ge u (β (pl π i) - 2 + d 0 (pl π i)) with x | x
      · exact absurd (h2.1 x).1 c
      · exact ⟨fun q' => absurd x (by omega), fun _ => h2.2 x⟩
    · have hb2 : 2 ≤ β (pl π i) := by
        rcases bv_c (β (pl π i)) with z | z | ⟨y, z⟩
        · exact absurd c (hRi.1 z).2
        · rw [hRi.2.1 z] at c; exact absurd c (by decide)
        · omega
      have h2 := hRi.2.2 hb2
      have hlt2 : u < β (pl π i) - 2 + d 0 (pl π i) := by
        rcases Nat.lt_or_ge u (β (pl π i) - 2 + d 0 (pl π i)) with x | x
        · exact x
        · rw [h2.2 x] at c; exact absurd c (by decide)
      rw [(h2.1 hlt2).2, nI_ltI (by omega) (by omega)]
      refine ⟨fun q => ?_, fun q => ?_⟩
      · refine next S1 (fun _ _ _ => rfl) WK.rfl ?_
        rw [row]
        exact ⟨hRi.1, hRi.2.1, fun _ => ⟨fun _ => h2.1 hlt2, fun q' => absurd q (by omega)⟩⟩
      · rintro S9 rfl
        have hr1 : zRef S1 t := hr.k kp.2.1
        have hk9 := WK.i (π := π) (f := 0) (v := 2) hr1 hlen hil (by omega)
        rw [kp.2.1] at hk9
        refine next _ (fun a b z => uI_other z) hk9 ?_
        rw [uI_at]
        exact ⟨fun q' => absurd q' (by omega), fun q' => absurd q' (by omega), fun _ => ⟨fun q' => absurd q' q, fun _ => rfl⟩⟩
end CS
end PU60
