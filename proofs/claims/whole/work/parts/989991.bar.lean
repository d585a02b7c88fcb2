section PU47
/-! CALL: bar -/
section CS
variable {Sc Sc' Sm S' S : sSt} {l sp n t t' : Nat} {w w' : Wd} {π π' : List Nat} {ns np cm nl ns' np' cm' nl' : Nat}
theorem x_hasPicked {L : Nat} (hL : L ≤ 6) (h3 : S.1 9 0 3 = nI L) {a : Int32} {v : Nat → Int32} (hv : ∀ m, m < L → S.1 10 0 m = v m) {k : Int32 → sSt → Prop} : F_X0_hasPicked a S k ↔ k (b2i ((List.range' 0 L).any (fun m => decide (v m = a)))) S := by
  rw [F_X0_hasPicked]
  suffices hh : ∀ r i f, i + r = L → r < f → (B_X0_hasPicked_2 f a (nI i) S k ↔ k (b2i ((List.range' i r).any (fun m => decide (v m = a)))) S) from hh L 0 fuel (by omega) (fuel_gt (by omega))
  intro r
  induction r with
  | zero =>
    intro i f hi hf
    obtain ⟨f, rfl⟩ : ∃ z, f = z + 1 := ⟨f - 1, by omega⟩
    have e : i = L := by omega
    subst e
    simp only [B_X0_hasPicked_2_s, Bb_X0_hasPicked_2, h3, nI_leI (show i < 2147483648 by omega) (show i < 2147483648 by omega), Nat.le_refl, true_implies, not_true_eq_false, false_implies, and_true]
    exact Iff.rfl
  | succ r ih =>
    intro i f hi hf
    obtain ⟨f, rfl⟩ : ∃ z, f = z + 1 := ⟨f - 1, by omega⟩
    have h : ¬ nI L ≤ nI i := nI_ge (by omega) (by omega)
    simp only [B_X0_hasPicked_2_s, Bb_X0_hasPicked_2, h3, h, false_implies, true_and, not_false_eq_true, true_implies]
    rw [ix_n (by omega) (by omega), hv i (by omega), List.range'_succ, List.any_cons]
    simp only [forall_eq, nI_1, ih (i + 1) f (by omega) (by omega)]
    by_cases c : v i = a
    · simp [c, b2i]
    · rw [decide_eq_false c, Bool.false_or]
      simp only [c, not_false_eq_true, true_implies, false_implies, and_true]
/-- what bars a session from a job, in the call's words -/
def brv (w : Wd) (j s tc : Nat) : Int32 := if hind w j (nI s) = 0 then (if asked w j s tc then 7 else 6) else hind w j (nI s)
theorem m_bar28 (hW : WF w ns np cm nl) {L : Nat} (hL : L ≤ 6) {s j tc : Nat} (hs : s < ns) (hj : j < 24) (hse : sees w j (nI s) = true) (ht4 : tc ≤ 4) (htc : w (1149 + 27 * s + 5) = nI tc) {v : Nat → Nat} (hvl : ∀ m, m < L → v m < 24) (hv : ∀ m, m < L → S.1 9 0 m = nI (v m)) {k : Int32 → sSt → Prop} : B_X12_bar_28 fuel (nI s) (nI j) (nI L) 0 (sw S w) k ↔ k (if (List.range' 0 L).any (fun m => decide (v m = j)) then 0 else brv w j s tc) (sw S w) := by
  have hn := hW.hns.1
  suffices hh : ∀ r i f, i + r = L → r < f → (B_X12_bar_28 f (nI s) (nI j) (nI L) (nI i) (sw S w) k ↔ k (if (List.range' i r).any (fun m => decide (v m = j)) then 0 else brv w j s tc) (sw S w)) from hh L 0 fuel (by omega) (fuel_gt (by omega))
  intro r
  induction r with
  | zero =>
    intro i f hi hf
    obtain ⟨f, rfl⟩ : ∃ z, f = z + 1 := ⟨f - 1, by omega⟩
    have e : i = L := by omega
    subst e
    have hvt := ver_lt (w := w) (s := nI s) hj
    obtain ⟨⟨g, hg6, hg⟩, -⟩ := hW.vok hj (sees_lie hse)
    have hgt : (grp w j).toNatClampNeg = g := by unfold grp; rw [hg]; exact nI_clamp (by omega)
    simp only [B_X12_bar_28_s, Bb_X12_bar_28, nI_leI (show i < 2147483648 by omega) (show i < 2147483648 by omega), Nat.le_refl, true_implies, not_true_eq_false, false_implies, and_true]
    rw [m_isOthers hj, m_seen hj, sw_w]
    simp only [seeI, hse, if_true, na_3, na_5]
    rw [ix_n (by omega) (by omega), ix_n (by omega) (by omega)]
    simp only [m_hasLesser hj, m_isFull (S := sw S w) hj (g := g) (by rw [sw_w]; exact hg) hg6, m_isAsAsked (S := sw S w) (s := s) hj (by omega) (by rw [sw_w]; exact hse) ht4 (by rw [sw_w]; exact htc), sw_w, b2i_0, Bool.not_eq_false]
    unfold brv hind
    rw [hgt]
    simp only [List.range'_zero, List.any_nil]
    cases oth w j (nI s) <;> by_cases c1 : w (ver w j (nI s) + 3) = 0 <;> by_cases c2 : w (ver w j (nI s) + 5) ≤ w 3 <;> cases lesser w j (nI s) <;> cases full w g (nI s) <;> cases asked w j s tc <;> simp [c1, c2, -Int32.not_le]
  | succ r ih =>
    intro i f hi hf
    obtain ⟨f, rfl⟩ : ∃ z, f = z + 1 := ⟨f - 1, by omega⟩
    have h : ¬ nI L ≤ nI i := nI_ge (by omega) (by omega)
    simp only [B_X12_bar_28_s, Bb_X12_bar_28, h, false_implies, true_and, not_false_eq_true, true_implies]
    rw [ix_n (by omega) (by omega), show (sw S w).1 9 0 i = nI (v i) from by rw [sw_o (by omega)]; exact hv i (by omega), nI_eq (by have := hvl i (by omega); omega) (by omega), List.range'_succ, List.any_cons]
    simp only [forall_eq, nI_1, ih (i + 1) f (by omega) (by omega)]
    by_cases c : v i = j
    · simp [c]
    · rw [decide_eq_false c, Bool.false_or]
      simp only [c, not_false_eq_true, true_implies, false_implies, and_true]
theorem cs_29 (h : Inv n Sc Sm) {a1 a2 a3 a4 a5 : Int32} {o : Int64} : CS_29 a1 a2 a3 a4 a5 Sc Sm o (fun S1 S2 _ => Inv (n + 1) S1 S2) := by
  obtain ⟨l, sp, π, ns, np, cm, nl, hR, hB, hc⟩ := h
  obtain ⟨w, hw⟩ : ∃ w, w = Sm.1 1 0 := ⟨_, rfl⟩
  have hs : Sm = sw Sm w := by rw [hw, sw_s]
  rw [← hw] at hB
  have hW := hB.2.2.1
  have hn := hW.hns.1
  have m0 : MK Sm (uI Sm 0 0 0 0) := MK.rfl.f (by omega)
  show FW_bar a1 a2 Sc o (fun r1 S2 o3 => F_X12_bar a1 a2 Sm (tl n r1 S2 o3))
  unfold FW_bar F_X11_bar
  have bad : ((∀ j, j < 24 → num w j = a2 → sees w j a1 = false) ∨ hasS w a1 = false) → F_X12_bar a1 a2 Sm (tl n 1 Sc o) := by
    intro hno
    rw [hs, F_X12_bar]
    refine m_ownJobFor hW (fun j s hj hs ha hnm hse => (no_job hno hW hj hs ha hnm hse).elim) (fun _ S' g1 g2 => ⟨fun q => absurd rfl q, fun _ => ?_⟩)
    exact tl_ex g1 (by decide) (inv_same hR hB hc g2)
  refine x_needSession hR.2.1 hB (fun s hs' ha => ?_) (fun q => ⟨fun _ => bad (Or.inr q), fun q => absurd rfl q⟩)
  refine x_needJob hR.2.1 hB (fun i hi hnm hse => ?_) (fun q => ⟨fun _ => bad (Or.inl q), fun q => absurd rfl q⟩)
  rw [ha] at hse
  have hj4 := hB.2.1.at hi
  obtain ⟨tc, kc, all, t4, k4, al1, al6, htc, hkc, hall⟩ := wf_ses hW hs'
  rw [hR.2.1, hR.2.2.1]
  refine x_copyTable hB hR.2.2.2.1 (by have := hR.1; omega) (fun S6 b6 k6 r6 _ => ?_)
  have l6 : S6.2 0 0 5 = sp := by rw [r6]; exact hR.2.2.1
  rw [l6, ha]
  refine x_claimAll b6 hs' t4 k4 al6 htc hkc hall (fun S9 b9 k9 r9 n9 p9 _ _ => ?_)
  obtain ⟨whi, wlen⟩ := wcl_hi (tc := tc) (kc := kc) hs' all w hW
  have hmem : ∀ m, m < (wcl s tc kc all w).2.length → (wcl s tc kc all w).2.getD m 0 < 24 ∧ lie w ((wcl s tc kc all w).2.getD m 0) = true := fun m hm => (wcl_ok (np := np) (cm := cm) (nl := nl) (tc := tc) (kc := kc) hs' all w hW).2.1 _ (by
    rw [List.getD_eq_getElem?_getD, List.getElem?_eq_getElem hm]; exact List.getElem_mem hm)
  have hB9 : zB S9 l w π ns np cm nl := hB.kp (by have := hR.1; omega) (k6.tr k9)
  have r9' : S9.2 = Sc.2 := r9.trans r6
  have hl9 : S9.2 0 0 4 = l := by rw [r9']; exact hR.2.1
  have hI : ∀ T, MK Sm T → T.1 1 0 = w → Inv (n + 1) S9 T := fun T hm hT => by
    have := inv_spare hR hB hc (k6.tr k9) r9' hm
    rw [show sw T w = T from by rw [← hT, sw_s]] at this
    exact this
  have eany : (List.range' 0 (wcl s tc kc all w).2.length).any (fun m => decide (num w ((wcl s tc kc all w).2.getD m 0) = a2)) = (List.range' 0 (wcl s tc kc all w).2.length).any (fun m => decide ((wcl s tc kc all w).2.getD m 0 = pl π i)) := by
    rw [Bool.eq_iff_iff, List.any_eq_true, List.any_eq_true]
    constructor
    · rintro ⟨m, m1, m2⟩
      rw [List.mem_range'_1] at m1
      refine ⟨m, by rw [List.mem_range'_1]; exact m1, ?_⟩
      rw [decide_eq_true_eq] at m2 ⊢
      have hm := hmem m (by omega)
      exact hW.one _ _ hm.1 hj4 hm.2 (by rw [m2, hnm])
    · rintro ⟨m, m1, m2⟩
      rw [List.mem_range'_1] at m1
      refine ⟨m, by rw [List.mem_range'_1]; exact m1, ?_⟩
      rw [decide_eq_true_eq] at m2 ⊢
      rw [m2, hnm]
  have good : ∀ r : Int32, r = (if (List.range' 0 (wcl s tc kc all w).2.length).any (fun m => decide ((wcl s tc kc all w).2.getD m 0 = pl π i)) then 0 else brv w (pl π i) s tc) → F_X12_bar (nI s) a2 Sm (tl n 0 S9 r.toInt64) := by
    intro r hr
    rw [hs, F_X12_bar]
    refine m_ownJobFor hW (fun j s2 hj hs2 ha2 hnm2 hse2 => ⟨fun _ => ?_, fun q => absurd q (ni_m1 (by omega))⟩) (fun hno => (no_job hno hW hj4 hs' rfl hnm hse).elim)
    obtain rfl := same_ses hW hs2 hs' ha2 rfl
    obtain rfl := same_job hW hj hj4 hnm2 hnm hse2
    refine m_claimSeen hs' t4 k4 al6 hW htc hkc hall (fun T g1 g2 g3 => ?_)
    have eT : T = sw T w := by rw [← g1, sw_s]
    rw [eT, m_bar28 hW (by omega) hs' hj hse2 t4 htc (fun m hm => (hmem m hm).1) g3, ← hr]
    have hmk : MK Sm T := m0.tr ⟨fun f _ _ _ _ => by rw [g2 0 0 (by omega) (by omega) (by omega) (by omega)], g2 2 0 (by omega) (by omega) (by omega) (by omega), g2 6 0 (by omega) (by omega) (by omega) (by omega)⟩
    refine tl_ok (by rw [g2 0 0 (by omega) (by omega) (by omega) (by omega)]; exact uI_at) ?_ rfl
    rw [← eT]
    exact hI T hmk g1
  rw [x_hasPicked (by omega) n9 p9, eany]
  simp only [b2i_0, Bool.not_eq_false]
  refine ⟨fun c => ?_, fun c => good 0 (by rw [c]; rfl)⟩
  rw [hl9, F_X0_barOfUnclaimed, ← r9', x_hindrance hB9.1 hB9.2.1 hB9.2.2.1 hi]
  refine ⟨fun c2 => ?_, fun c2 => good _ (by rw [c]; unfold brv; rw [if_neg c2]; rfl)⟩
  rw [ix_n (by omega) (by omega), x_fits hB9.1 hB9.2.1 hB9.2.2.1 hi hs' hse t4 htc]
  simp only [b2i_0, Bool.not_eq_false]
  exact ⟨fun c3 => good 6 (by rw [c]; unfold brv; rw [if_pos c2, c3]; rfl), fun c3 => good 7 (by rw [c]; unfold brv; rw [if_pos c2, c3]; rfl)⟩
end CS
end PU47
