section PU55
/-! A SCHEDULE FIRES -/
def frs (w : Wd) : Nat → Nat → Option Nat
  | _, 0 => none
  | i, r + 1 => if lie w i = true then frs w (i + 1) r else some i
theorem frs_some {w : Wd} {j : Nat} : ∀ r i, frs w i r = some j → i ≤ j ∧ j < i + r ∧ lie w j = false ∧ ∀ x, i ≤ x → x < j → lie w x = true := by
  intro r
  induction r with
  | zero => intro i h; rw [frs] at h; cases h
  | succ r ih =>
    intro i h
    rw [frs] at h
    cases c : lie w i
    · rw [c, if_neg (by decide)] at h
      cases h
      exact ⟨Nat.le_refl _, by omega, c, fun x a b => absurd a (by omega)⟩
    · rw [c, if_pos rfl] at h
      obtain ⟨a, b, d, e⟩ := ih (i + 1) h
      refine ⟨by omega, by omega, d, fun x p q => ?_⟩
      by_cases z : x = i
      · rw [z]; exact c
      · exact e x (by omega) q
theorem frs_none {w : Wd} : ∀ r i, frs w i r = none → ∀ x, i ≤ x → x < i + r → lie w x = true := by
  intro r
  induction r with
  | zero => intro i _ x a b; exact absurd b (by omega)
  | succ r ih =>
    intro i h x a b
    rw [frs] at h
    cases c : lie w i
    · rw [c, if_neg (by decide)] at h; cases h
    · rw [c, if_pos rfl] at h
      by_cases z : x = i
      · rw [z]; exact c
      · exact ih (i + 1) h x (by omega) (by omega)
def wfn (w : Wd) (p j : Nat) (q : Int32) : Wd := va_up (va_up (wnew w j 3 1 (w (1257 + 8 * p + 2)) (w (1257 + 8 * p + 3)) (w (1257 + 8 * p + 4)) (w 3)) (21 + 47 * j + 3 + 11) (nI p)) (21 + 47 * j + 3 + 12) q
/-- a schedule fires a slot: a job comes, or none can -/
def wfire (w : Wd) (p : Nat) (q : Int32) : Wd × Nat := match frs w 0 24 with
  | none => (va_up w 7 (w 7 + 1), 0)
  | some j => (wfn w p j q, 1)
section CS
variable {Sc Sc' Sm S' S : sSt} {l sp n t : Nat} {w w' : Wd} {π π' : List Nat} {ns np cm nl ns' np' cm' nl' B p j : Nat} {q : Int32}
theorem wfire_n (h : frs w 0 24 = none) : wfire w p q = (va_up w 7 (w 7 + 1), 0) := by unfold wfire; rw [h]
theorem wfire_s (h : frs w 0 24 = some j) : wfire w p q = (wfn w p j q, 1) := by unfold wfire; rw [h]
theorem wfn_out {x : Nat} (h6 : x ≠ 6) (h : ¬ (21 + 47 * j ≤ x ∧ x < 68 + 47 * j)) : wfn w p j q x = w x := by
  unfold wfn
  rw [up_ne (by omega), up_ne (by omega), wnew_out h6 h]
theorem wfn_6 : wfn w p j q 6 = w 6 + 1 := by unfold wfn; rw [up_ne (by omega), up_ne (by omega), wnew_6]
theorem wfire_hi {x : Nat} (hx : 1149 ≤ x ∨ x = 0 ∨ x = 1 ∨ x = 3 ∨ x = 4) : (wfire w p q).1 x = w x := by
  cases hf : frs w 0 24 with
  | none => rw [wfire_n hf]; exact up_ne (by omega)
  | some j =>
    rw [wfire_s hf]
    have := frs_some 24 0 hf
    exact wfn_out (by omega) (by omega)
theorem wfire_6 : (wfire w p q).1 6 = w 6 + nI (wfire w p q).2 := by
  cases hf : frs w 0 24 with
  | none => rw [wfire_n hf]; show va_up w 7 (w 7 + 1) 6 = w 6 + 0; rw [up_ne (by omega), Int32.add_zero]
  | some j => rw [wfire_s hf]; exact wfn_6 (w := w) (p := p) (j := j) (q := q)
theorem wfire_01 : (wfire w p q).2 = 0 ∨ (wfire w p q).2 = 1 := by
  cases hf : frs w 0 24 with
  | none => rw [wfire_n hf]; exact Or.inl rfl
  | some j => rw [wfire_s hf]; exact Or.inr rfl
theorem len_free (hO : zOrd w π) (hj : j < 24) (hl : lie w j = false) : π.length < 24 := by
  have hlen := hO.len
  refine Nat.lt_of_le_of_ne hlen (fun e => ?_)
  have := (List.countP_eq_length (p := lie w) (l := List.range' 0 24)).mp (by rw [lying_cnt hO, List.length_range']; exact e) j (by rw [List.mem_range'_1]; omega)
  rw [hl] at this; exact absurd this (by decide)
theorem len_full (hO : zOrd w π) (h : ∀ x, x < 24 → lie w x = true) : π.length = 24 := by
  have hlen := hO.len
  refine Classical.byContradiction fun c => ?_
  obtain ⟨j, hj, hl, -⟩ := first_free hO (show π.length < 24 by omega)
  rw [h j hj] at hl; exact absurd hl (by decide)
theorem wfn_wf (hW : WF w ns np cm nl) (hcm : cm + 1 < 1000000) (hp : p < np) (hj : j < 24) (hl : lie w j = false) : WF (wfn w p j q) ns np (cm + 1) nl := by
  obtain ⟨-, -, ⟨g, hg, eg⟩, ⟨co, c1, c9, ec⟩, -⟩ := hW.pln p hp
  obtain ⟨m, hm, em⟩ := hW.mono
  have hN := hW.new hcm hj hl (off := 3) (inn := 1) (pr := w (1257 + 8 * p + 3)) ⟨rfl, rfl⟩ hg c1 c9 (show m ≤ 10107 by omega) em
  unfold wfn
  rw [eg, ec]
  generalize wnew w j 3 1 (nI g) (w (1257 + 8 * p + 3)) (nI co) (w 3) = u at hN ⊢
  have e : ∀ x, x ≠ 21 + 47 * j + 3 + 11 → x ≠ 21 + 47 * j + 3 + 12 → va_up (va_up u (21 + 47 * j + 3 + 11) (nI p)) (21 + 47 * j + 3 + 12) q x = u x := fun x a b => by rw [up_ne b, up_ne a]
  refine hN.slot (fun x hx => e x (by omega) (by omega)) hj ?_ (Or.inl (e _ (by omega) (by omega)))
  rcases hN.job j hj with z | ⟨z1, z2, z3, z4, z5, z6⟩
  · exact Or.inl ((e _ (by omega) (by omega)).trans z)
  · have e1 := e (21 + 47 * j + 1) (by omega) (by omega)
    have e2 : lkr (va_up (va_up u (21 + 47 * j + 3 + 11) (nI p)) (21 + 47 * j + 3 + 12) q) j = lkr u j := e _ (by omega) (by omega)
    have e0 : num (va_up (va_up u (21 + 47 * j + 3 + 11) (nI p)) (21 + 47 * j + 3 + 12) q) j = num u j := e _ (by omega) (by omega)
    refine Or.inr ⟨by rw [e0]; exact z1, by rw [e1]; exact z2, by rw [e1, e2]; exact z3, by rw [e2]; exact z4, fun z => ?_, fun z => (z6 (by rw [e2] at z; exact z)).c (fun f hf => e _ (by omega) (by omega))⟩
    exact ((z5 (by rw [e1] at z; exact z)).free (mf := 11) (by omega) _).free (mf := 12) (by omega) _
theorem wfn_ord (hO : zOrd w π) (hW : WF w ns np cm nl) (hj : j < 24) (hl : lie w j = false) : zOrd (wfn w p j q) (π ++ [j]) :=
  (hO.new hW (off := 3) (inn := 1) (g := w (1257 + 8 * p + 2)) (pr := w (1257 + 8 * p + 3)) (co := w (1257 + 8 * p + 4)) (du := w 3) hj hl).c (fun x _ => by unfold wfn; rw [up_ne (by omega), up_ne (by omega)])
theorem wfn_ws (hZ : WS w ns) (hn : ns ≤ 4) (hj : j < 24) (hl : lie w j = false) : WS (wfn w p j q) ns :=
  (hZ.new hn (off := 3) (inn := 1) (g := w (1257 + 8 * p + 2)) (pr := w (1257 + 8 * p + 3)) (co := w (1257 + 8 * p + 4)) (du := w 3) hj hl).c hn (fun x _ => ⟨by unfold wfn; rw [up_ne (by omega), up_ne (by omega)], by unfold wfn; rw [up_ne (by omega), up_ne (by omega)]⟩) (fun s _ => by unfold wfn; rw [up_ne (by omega), up_ne (by omega)]) (fun x _ _ => by unfold wfn; rw [up_ne (by omega), up_ne (by omega)])
/-- a world of which B bounds how many came -/
def OW (w : Wd) (ns np nl B : Nat) : Prop := ∃ π cm, zOrd w π ∧ WF w ns np cm nl ∧ WS w ns ∧ cm + 24 ≤ B + π.length
def zX (S : sSt) (t : Nat) (w : Wd) (ns np nl B : Nat) : Prop := ∃ π cm, zB S t w π ns np cm nl ∧ cm + 24 ≤ B + π.length
theorem zX.ow (h : zX S t w ns np nl B) : OW w ns np nl B := by
  obtain ⟨π, cm, ⟨_, a, b, c⟩, d⟩ := h
  exact ⟨π, cm, a, b, c, d⟩
theorem OW.fire (h : OW w ns np nl B) (hB : B < 999000) (hp : p < np) : OW (wfire w p q).1 ns np nl B := by
  obtain ⟨π, cm, hO, hW, hZ, hc⟩ := h
  have hn := hW.hns.1
  have hlen := hO.len
  cases hf : frs w 0 24 with
  | none =>
    rw [wfire_n hf]
    show OW (va_up w 7 (w 7 + 1)) ns np nl B
    exact ⟨π, cm, hO.c (fun x _ => up_ne (by omega)), hW.out (up_ne (by omega)) (fun x _ _ _ z _ _ => up_ne z), hZ.c hn (fun x _ => ⟨up_ne (by omega), up_ne (by omega)⟩) (fun s _ => up_ne (by omega)) (fun x _ _ => up_ne (by omega)), hc⟩
  | some j =>
    rw [wfire_s hf]
    show OW (wfn w p j q) ns np nl B
    obtain ⟨-, hj, hl, -⟩ := frs_some 24 0 hf
    have hlt := len_free hO (show j < 24 by omega) hl
    exact ⟨π ++ [j], cm + 1, wfn_ord hO hW (by omega) hl, wfn_wf hW (by omega) hp (by omega) hl, wfn_ws hZ hn (by omega) hl, by rw [List.length_append, List.length_singleton]; omega⟩
theorem x_fire (h : zX S t w ns np nl B) (hB : B < 999000) (hp : p < np) {k : sSt → Prop} (hk : ∀ S', zX S' t (wfire w p q).1 ns np nl B → KP t S S' → S'.2 = S.2 → k S') : F_X6_fire t (nI p) q S k := by
  obtain ⟨π, cm, h, hc⟩ := h
  have hO := h.2.1
  have hW := h.2.2.1
  have hlen := hO.len
  have hn := hW.hns.1
  have hnp := hW.hnp.1
  have f2 : S.1 25 (4 * t + p) 2 = w (1257 + 8 * p + 2) := h.1.pln p hp 2 (by omega)
  have f3 : S.1 25 (4 * t + p) 3 = w (1257 + 8 * p + 3) := h.1.pln p hp 3 (by omega)
  have f4 : S.1 25 (4 * t + p) 4 = w (1257 + 8 * p + 4) := h.1.pln p hp 4 (by omega)
  rw [F_X6_fire, ix_n (by omega) (by omega)]
  cases hf : frs w 0 24 with
  | none =>
    rw [wfire_n hf] at hk
    replace hk : ∀ S', zX S' t (va_up w 7 (w 7 + 1)) ns np nl B → KP t S S' → S'.2 = S.2 → k S' := hk
    have hfull := len_full hO (fun x hx => frs_none 24 0 hf x (by omega) (by omega))
    rw [F_X6_addJob, h.1.size]
    refine ⟨fun z => absurd z (nI_nlt (b := 24) (by omega) (by omega)), fun _ => opt_n.mpr ?_⟩
    rintro S6 e6
    have e7 : S.1 13 t 14 = w 7 := h.1.sca.1 7 (by omega)
    have b := h.sca (f := 7) (by omega) (w 7 + 1)
    rw [e7] at e6
    refine hk S6 ⟨π, cm, by rw [e6]; exact b, hc⟩ (by rw [e6]; exact KP.rfl.i (by unfold ow; omega)) (by rw [e6]; rfl)
  | some j =>
    rw [wfire_s hf] at hk
    replace hk : ∀ S', zX S' t (wfn w p j q) ns np nl B → KP t S S' → S'.2 = S.2 → k S' := hk
    obtain ⟨-, hj, hl, -⟩ := frs_some 24 0 hf
    have hj24 : j < 24 := by omega
    have hlt := len_free hO hj24 hl
    obtain ⟨-, -, ⟨g, hg, eg⟩, ⟨co, c1, c9, ec⟩, -⟩ := hW.pln p hp
    obtain ⟨m, hm, em⟩ := hW.mono
    rw [f2, f3, f4, eg, ec]
    refine x_addJob h hlt (by omega) hj24 hl hg c1 c9 hm em (fun S1 b1 k1 r1 => opt_s.mpr ?_)
    rintro S7 e7 S8 e8
    have hi : π.length < (π ++ [j]).length := by rw [List.length_append, List.length_singleton]; omega
    have hpl : pl (π ++ [j]) π.length = j := pl_last
    have hqt : S.2 14 t π.length / 24 = t := h.1.ref.1 _ hlt
    have o : ∀ a b, ¬ (a = 21 ∧ b = S.2 14 t π.length) → S8.1 a b = S1.1 a b := fun a b z => by rw [e8, uI_other z, e7, uI_other z]
    have r8 : S8.2 = S1.2 := by rw [e8, e7]; rfl
    have f21 : ∀ f, f ≠ 11 → f ≠ 12 → S8.1 21 (S.2 14 t π.length) f = S1.1 21 (S.2 14 t π.length) f := fun f a b => by rw [e8, uI_nc (by omega), e7, uI_nc (by omega)]
    have f11 : S8.1 21 (S.2 14 t π.length) 11 = nI p := by rw [e8, uI_nc (by omega), e7, uI_at]
    have f12 : S8.1 21 (S.2 14 t π.length) 12 = q := by rw [e8, uI_at]
    have eN : wfn w p j q = va_up (va_up (wnew w j 3 1 (nI g) (w (1257 + 8 * p + 3)) (nI co) (w 3)) (21 + 47 * j + 3 + 11) (nI p)) (21 + 47 * j + 3 + 12) q := by unfold wfn; rw [eg, ec]
    have eo : ∀ x, x ≠ 21 + 47 * j + 3 + 11 → x ≠ 21 + 47 * j + 3 + 12 → wfn w p j q x = wnew w j 3 1 (nI g) (w (1257 + 8 * p + 3)) (nI co) (w 3) x := fun x a b => by rw [eN, up_ne b, up_ne a]
    obtain ⟨a1, a2, a3, a4, a5⟩ := (b1.1.job _ hi).1
    rw [r1, hpl] at a1 a2 a3 a4 a5
    have el : lkr (wfn w p j q) j = -1 := (eo _ (by omega) (by omega)).trans wnew_lkr
    refine hk S8 ⟨π ++ [j], cm + 1, ⟨?_, wfn_ord hO hW hj24 hl, wfn_wf hW (by omega) hp hj24 hl, wfn_ws h.2.2.2 hn hj24 hl⟩, by rw [List.length_append, List.length_singleton]; omega⟩ (k1.tr (by rw [e8, e7]; exact (KP.rfl.i (by unfold ow; omega)).i (by unfold ow; omega))) (r8.trans r1)
    refine b1.1.upd b1.2.1 hn hnp hW.hnl.1 hi (fun k a c1 _ => o k a (by rw [r1] at c1; exact c1)) r8 (fun x hx => by rw [hpl] at hx; exact eo x (by omega) (by omega)) ?_ ?_
    · rw [r1, hpl]
      refine ⟨by rw [f21 6 (by omega) (by omega), a1]; exact (eo _ (by omega) (by omega)).symm, by rw [f21 5 (by omega) (by omega), a2]; exact (eo _ (by omega) (by omega)).symm, by rw [f21 4 (by omega) (by omega), a3]; exact (eo _ (by omega) (by omega)).symm, fun _ f hf => ?_, fun z => absurd el z⟩
      by_cases c11 : f = 11
      · subst c11
        show S8.1 21 (S.2 14 t π.length) 11 = _
        rw [f11, eN, up_ne (by omega), up_eq]
      · by_cases c12 : f = 12
        · subst c12
          show S8.1 21 (S.2 14 t π.length) 12 = _
          rw [f12, eN, up_eq]
        · have e22 : S8.1 22 (6 * S.2 14 t π.length) = S1.1 22 (6 * S.2 14 t π.length) := o _ _ (by omega)
          have ec : cJ S8 (S.2 14 t π.length) (6 * S.2 14 t π.length) f = cJ S1 (S.2 14 t π.length) (6 * S.2 14 t π.length) f := by
            rcases f_cases f with rfl | rfl | rfl | rfl | rfl | rfl | rfl | rfl | rfl | rfl | rfl | rfl | rfl | ⟨k, rfl⟩ <;> simp only [cJ, e22] <;> first | rfl | exact f21 _ (by omega) (by omega) | exact absurd rfl c11 | exact absurd rfl c12
          rw [ec, a4 wnew_1 f hf]
          exact (eo _ (by omega) (by omega)).symm
    · rw [r1, hpl]
      intro s k hs hk' hlk _
      rw [el] at hlk
      exact absurd hlk.symm (ni_m1 (by omega))
theorem m_full {off : Int32} {inn g pr co du : Int32} (h : ∀ x, x < 24 → lie w x = true) {k : Int32 → sSt → Prop} : F_X12_comes off inn g pr co du (sw S w) k ↔ k (-1) (sw S w) := by
  rw [F_X12_comes]
  suffices hh : ∀ r i m, i + r = 24 → r < m → (B_X12_comes_3 m off inn g pr co du (nI i) (sw S w) k ↔ k (-1) (sw S w)) from hh 24 0 fuel (by omega) (fuel_gt (by omega))
  intro r
  induction r with
  | zero =>
    intro i m hi hm
    obtain ⟨m, rfl⟩ : ∃ z, m = z + 1 := ⟨m - 1, by omega⟩
    have e : i = 24 := by omega
    subst e
    simp only [B_X12_comes_3_s, Bb_X12_comes_3, B_X12_comes_26, show (24 : Int32) ≤ nI 24 from by decide, show nI 24 = (24 : Int32) from rfl, true_implies, not_true_eq_false, false_implies, true_and, and_true]
    simp
  | succ r ih =>
    intro i m hi hm
    obtain ⟨m, rfl⟩ : ∃ z, m = z + 1 := ⟨m - 1, by omega⟩
    have h1 : ¬ (24 : Int32) ≤ nI i := nI_ge (b := 24) (by omega) (by omega)
    have h2 : ¬ num w i = -1 := lie_n (h i (by omega))
    simp only [B_X12_comes_3_s, Bb_X12_comes_3, h1, h2, false_implies, true_and, not_false_eq_true, true_implies, m_numberOf (show i < 24 by omega), sw_w, forall_eq, nI_1, ih (i + 1) m (by omega) (by omega)]
theorem m_fires (hp : p < 4) {k : Int32 → sSt → Prop} (hk : k (nI (wfire w p q).2) (sw S (wfire w p q).1)) : F_X12_fires (nI p) q (sw S w) k := by
  rw [F_X12_fires, m_planAt2, ix_n (by omega) (by omega), m_planAt3, ix_n (by omega) (by omega), m_planAt4, ix_n (by omega) (by omega), sw_w]
  cases hf : frs w 0 24 with
  | none =>
    rw [wfire_n hf] at hk
    rw [m_full (fun x hx => frs_none 24 0 hf x (by omega) (by omega))]
    refine ⟨fun z => absurd rfl z, fun _ => ?_⟩
    rintro S21 rfl
    rw [sw_i, sw_w]
    exact hk
  | some j =>
    rw [wfire_s hf] at hk
    obtain ⟨-, hj, hl, hfirst⟩ := frs_some 24 0 hf
    refine (m_comes (off := 3) (Or.inl rfl) (show j < 24 by omega) hl (fun x hx => hfirst x (by omega) hx)).mpr ?_
    rw [if_neg (by decide)]
    refine ⟨fun _ => ?_, fun z => absurd z (ni_m1 (by omega))⟩
    rw [m_jobAt3, na_11, ix_n (by omega) (by omega)]
    simp only [forall_eq, sw_i, sw_w]
    rw [m_jobAt3, na_12, ix_n (by omega) (by omega)]
    simp only [forall_eq, sw_i, sw_w]
    exact hk
end CS
end PU55
