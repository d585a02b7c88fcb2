section PU33
/-! CALLS: alike, overtaken -/
def lik (w : Wd) (p q : Nat) : Nat → Nat → Nat
  | 0, k => k
  | r + 1, k => if w (p + 13 + k) = w (q + 13 + k) then lik w p q r (k + 1) else k
theorem lp_fun {L : Nat → Int32 → Int32 → Prop} {K : Int32 → Prop} {N : Nat} (f : Nat → Nat) (he : ∀ m c, L (m + 1) c (nI N) ↔ K c) (hs : ∀ m c i, i < N → (L (m + 1) c (nI i) ↔ L m (c + nI (f i)) (nI (i + 1)))) :
    ∀ (r i m : Nat) (c : Nat), i + r = N → r < m → (L m (nI c) (nI i) ↔ K (nI (c + ((List.range' i r).map f).sum))) := by
  intro r
  induction r with
  | zero =>
    intro i m c hi hm
    obtain ⟨m, rfl⟩ : ∃ q, m = q + 1 := ⟨m - 1, by omega⟩
    have : i = N := by omega
    subst this
    rw [he]
    simp
  | succ r ih =>
    intro i m c hi hm
    obtain ⟨m, rfl⟩ : ∃ q, m = q + 1 := ⟨m - 1, by omega⟩
    rw [hs m _ i (by omega), nI_add, ih (i + 1) m _ (by omega) (by omega), List.range'_succ, List.map_cons, List.sum_cons, Nat.add_assoc]
theorem sum_filter (l : List Nat) (P : Nat → Bool) (f : Nat → Nat) (h : ∀ x, P x = false → f x = 0) : ((l.filter P).map f).sum = (l.map f).sum := by
  induction l with
  | nil => rfl
  | cons a l ih =>
    cases c : P a
    · rw [List.filter_cons_of_neg (by rw [c]; decide), ih, List.map_cons, List.sum_cons, h a c, Nat.zero_add]
    · rw [List.filter_cons_of_pos (by rw [c]), List.map_cons, List.map_cons, List.sum_cons, List.sum_cons, ih]
theorem zOrd.sum {w : Wd} {π : List Nat} (h : zOrd w π) (f : Nat → Nat) (hf : ∀ x, lie w x = false → f x = 0) : ((List.range' 0 π.length).map (fun i => f (pl π i))).sum = ((List.range' 0 24).map f).sum := by
  rw [← sum_filter (List.range' 0 24) (fun j => lie w j) f hf, ← (h.perm.map f).sum_nat]
  have e : (List.range' 0 π.length).map (fun i => f (pl π i)) = ((List.range' 0 π.length).map (fun i => pl π i)).map f := by rw [List.map_map]; rfl
  rw [e, range_map]
section CS
variable {Sc Sc' Sm S' S : sSt} {l sp n : Nat} {w w' : Wd} {π π' : List Nat} {ns np cm nl ns' np' cm' nl' : Nat}
theorem x_causesLike {v v' p p' m m' : Nat} (hm : m ≤ 9) (hm' : m' ≤ 9) (hv : VR Sc (v / 6) v w p) (hv' : VR Sc (v' / 6) v' w p') (e3 : w (p + 7) = nI m) (e3' : w (p' + 7) = nI m') {k : Int32 → sSt → Prop} : F_X9_causesLike v v' Sc k ↔ k (nI (lik w p p' (min m m') 0)) Sc := by
  have h7 : Sc.1 22 v 3 = nI m := (hv 7 (by omega)).trans e3
  have h7' : Sc.1 22 v' 3 = nI m' := (hv' 7 (by omega)).trans e3'
  rw [F_X9_causesLike, h7, h7', forall_eq]
  have e : (if nI m' < nI m then nI m' else nI m) = nI (min m m') := by
    by_cases c : m' < m
    · rw [if_pos (nI_lt c (by omega)), Nat.min_eq_right (by omega)]
    · rw [if_neg (nI_nlt (by omega) (by omega)), Nat.min_eq_left (by omega)]
  rw [e]
  have hM : min m m' ≤ m ∧ min m m' ≤ m' := ⟨Nat.min_le_left _ _, Nat.min_le_right _ _⟩
  generalize hMM : min m m' = M at hM ⊢
  clear hMM e
  suffices hh : ∀ r i f, i + r = M → r < f → (B_X9_causesLike_14 f v v' (nI M) (nI i) Sc k ↔ k (nI (lik w p p' r i)) Sc) from hh M 0 fuel (by omega) (fuel_gt (by omega))
  intro r
  induction r with
  | zero =>
    intro i f hi hf
    obtain ⟨f, rfl⟩ : ∃ y, f = y + 1 := ⟨f - 1, by omega⟩
    have e : i = M := by omega
    subst e
    simp only [B_X9_causesLike_14_s, Bb_X9_causesLike_14, nI_leI (show i < 2147483648 by omega) (show i < 2147483648 by omega), Nat.le_refl, true_implies, not_true_eq_false, false_implies, and_true, lik]
  | succ r ih =>
    intro i f hi hf
    obtain ⟨f, rfl⟩ : ∃ y, f = y + 1 := ⟨f - 1, by omega⟩
    have hlt : ¬ nI M ≤ nI i := nI_ge (by omega) (by omega)
    have h4 : cz (Sc.1 22 v 4) i = w (p + (i + 13)) := hv (i + 13) (by omega)
    have h4' : cz (Sc.1 22 v' 4) i = w (p' + (i + 13)) := hv' (i + 13) (by omega)
    rw [show p + (i + 13) = p + 13 + i from by omega] at h4
    rw [show p' + (i + 13) = p' + 13 + i from by omega] at h4'
    unfold cz at h4 h4'
    simp only [B_X9_causesLike_14_s, Bb_X9_causesLike_14, F_X9_causeAt, hlt, false_implies, true_and, not_false_eq_true, true_implies, h7, h7', nI_pos (show i < 2147483648 by omega), (nI_ltI (show i < 2147483648 by omega) (show m < 2147483648 by omega)).mpr (by omega), (nI_ltI (show i < 2147483648 by omega) (show m' < 2147483648 by omega)).mpr (by omega), not_true_eq_false, and_true, h4, h4', forall_eq, nI_1, ih (i + 1) f (by omega) (by omega), lik]
    by_cases c : w (p + 13 + i) = w (p' + 13 + i) <;> simp [c]
theorem m_alike69 {p p' m m' : Nat} (hm : m ≤ 9) (hm' : m' ≤ 9) (hp : p < 2000) (hp' : p' < 2000) (e3 : w (p + 7) = nI m) (e3' : w (p' + 7) = nI m') {k : Int32 → sSt → Prop} : B_X12_alike_69 fuel (nI p) (nI p') 0 (sw S w) k ↔ k (nI (lik w p p' (min m m') 0)) (sw S w) := by
  have hM : min m m' ≤ m ∧ min m m' ≤ m' ∧ (min m m' = m ∨ min m m' = m') := ⟨Nat.min_le_left _ _, Nat.min_le_right _ _, by omega⟩
  generalize hMM : min m m' = M at hM ⊢
  clear hMM
  suffices hh : ∀ r i f, i + r = M → r < f → (B_X12_alike_69 f (nI p) (nI p') (nI i) (sw S w) k ↔ k (nI (lik w p p' r i)) (sw S w)) from hh M 0 fuel (by omega) (fuel_gt (by omega))
  intro r
  induction r with
  | zero =>
    intro i f hi hf
    obtain ⟨f, rfl⟩ : ∃ y, f = y + 1 := ⟨f - 1, by omega⟩
    have e : i = M := by omega
    subst e
    simp only [B_X12_alike_69_s, Bb_X12_alike_69, na_7, na_13, nI_add, ix_n (show p + 7 < 10421 by omega) (show 10421 ≤ 2147483648 by omega), ix_n (show p' + 7 < 10421 by omega) (show 10421 ≤ 2147483648 by omega), ix_n (show p + 13 + i < 10421 by omega) (show 10421 ≤ 2147483648 by omega), ix_n (show p' + 13 + i < 10421 by omega) (show 10421 ≤ 2147483648 by omega), sw_w, e3, e3', lik, nI_leI (show m < 2147483648 by omega) (show i < 2147483648 by omega), nI_leI (show m' < 2147483648 by omega) (show i < 2147483648 by omega)]
    rcases hM.2.2 with q | q
    · simp [show m ≤ i by omega]
    · by_cases c : m ≤ i <;> simp [c, show m' ≤ i by omega]
  | succ r ih =>
    intro i f hi hf
    obtain ⟨f, rfl⟩ : ∃ y, f = y + 1 := ⟨f - 1, by omega⟩
    simp only [B_X12_alike_69_s, Bb_X12_alike_69, na_7, na_13, nI_add, ix_n (show p + 7 < 10421 by omega) (show 10421 ≤ 2147483648 by omega), ix_n (show p' + 7 < 10421 by omega) (show 10421 ≤ 2147483648 by omega), ix_n (show p + 13 + i < 10421 by omega) (show 10421 ≤ 2147483648 by omega), ix_n (show p' + 13 + i < 10421 by omega) (show 10421 ≤ 2147483648 by omega), sw_w, e3, e3', lik, nI_leI (show m < 2147483648 by omega) (show i < 2147483648 by omega), nI_leI (show m' < 2147483648 by omega) (show i < 2147483648 by omega), show ¬ m ≤ i by omega, show ¬ m' ≤ i by omega, forall_eq, nI_1, ih (i + 1) f (by omega) (by omega), false_implies, true_and, not_false_eq_true, true_implies]
    by_cases c : w (p + 13 + i) = w (p' + 13 + i) <;> simp [c]
theorem sees_in {j : Nat} (h : sees w j (-1) = true) : isin w j = true := by
  simp only [sees, mine, Bool.and_eq_true, Bool.or_eq_true, decide_eq_true_eq, ne_eq, not_true_eq_false, false_and, false_or] at h
  exact h.2
theorem x_base' (h : zB Sc l w π ns np cm nl) {i : Nat} (hi : i < π.length) (hin : isin w (pl π i) = true) : VR Sc (6 * Sc.2 14 l i / 6) (6 * Sc.2 14 l i) w (21 + 47 * pl π i + 3) := by
  rw [show 6 * Sc.2 14 l i / 6 = Sc.2 14 l i from by omega]; exact x_base h hi hin
theorem cs_38 (h : Inv n Sc Sm) {a1 a2 a3 a4 a5 : Int32} {o : Int64} : CS_38 a1 a2 a3 a4 a5 Sc Sm o (fun S1 S2 _ => Inv (n + 1) S1 S2) := by
  obtain ⟨l, sp, π, ns, np, cm, nl, hR, hB, hc⟩ := h
  obtain ⟨w, hw⟩ : ∃ w, w = Sm.1 1 0 := ⟨_, rfl⟩
  have hs : Sm = sw Sm w := by rw [hw, sw_s]
  rw [← hw] at hB
  have hW := hB.2.2.1
  have m0 : MK Sm (uI Sm 0 0 0 0) := MK.rfl.f (by omega)
  have hI := inv_same hR hB hc m0
  have m00 : MK Sm (uI (uI Sm 0 0 0 0) 0 0 0 0) := m0.f (by omega)
  have hI2 := inv_same hR hB hc m00
  show FW_alike a1 a2 Sc o (fun r1 S2 o3 => F_X12_alike a1 a2 Sm (tl n r1 S2 o3))
  unfold FW_alike F_X11_alike
  refine x_needJob hR.2.1 hB (fun i hi hnm hse => ?_) (fun hno => ⟨fun _ => ?_, fun q => absurd rfl q⟩)
  · have hj4 := hB.2.1.at hi
    refine x_needJob hR.2.1 hB (fun i' hi' hnm' hse' => ?_) (fun hno => ⟨fun _ => ?_, fun q => absurd rfl q⟩)
    · have hj4' := hB.2.1.at hi'
      have both : ∀ {kk : Int32 → sSt → Prop}, B_X12_alike_22 (nI (pl π i)) (nI (pl π i')) (sw (uI (uI Sm 0 0 0 0) 0 0 0 0) w) kk → F_X12_alike a1 a2 Sm kk := by
        intro kk hk
        rw [hs, F_X12_alike]
        refine m_jobFor hW (fun j hj hnm1 hse1 _ => ⟨fun _ => ?_, fun q => absurd q (ni_m1 (by omega))⟩) (fun hno => (no_view hno hj4 hnm hse (Or.inl rfl)).elim)
        obtain rfl := same_job hW hj hj4 hnm1 hnm hse1
        refine m_jobFor hW (fun j' hj' hnm2 hse2 _ => ?_) (fun hno => (no_view hno hj4' hnm' hse' (Or.inl rfl)).elim)
        obtain rfl := same_job hW hj' hj4' hnm2 hnm' hse2
        exact hk
      have v := x_base' hB hi (sees_in hse)
      have v' := x_base' hB hi' (sees_in hse')
      obtain ⟨-, -, -, -, -, ⟨m, m1, m2⟩, -⟩ := tabV hW hj4 (sees_in hse)
      obtain ⟨-, -, -, -, -, ⟨m', m1', m2'⟩, -⟩ := tabV hW hj4' (sees_in hse')
      refine ⟨fun c => ?_, fun c => ⟨fun q => absurd q (by decide), fun _ => ⟨fun _ => ?_, fun q => absurd rfl q⟩⟩⟩
      · refine (x_causesLike m1 m1' v v' m2 m2').mpr ?_
        show F_X12_alike a1 a2 Sm (tl n 0 Sc _)
        refine both ?_
        have hne : ¬ nI (pl π i) = nI (pl π i') := fun q => c (by rw [← hnm, ← hnm', (nI_eq (by omega) (by omega)).mp q])
        refine ⟨fun q => absurd q (ni_m1 (by omega)), fun _ => ⟨fun _ => ?_, fun q => absurd q hne⟩⟩
        rw [B_X12_alike_42, m_throws0]
        refine ⟨fun _ => ?_, fun q => absurd rfl q⟩
        rw [m_jobAt3, m_jobAt3, m_alike69 m1 m1' (by omega) (by omega) m2 m2']
        exact tl_ok uI_at hI2 rfl
      · show F_X12_alike a1 a2 Sm (tl n 2 Sc _)
        refine both ?_
        have he : nI (pl π i) = nI (pl π i') := by
          rw [hW.one _ _ hj4 hj4' (sees_lie hse) (by rw [hnm, hnm', c])]
        refine ⟨fun q => absurd q (ni_m1 (by omega)), fun _ => ⟨fun q => absurd he q, fun _ => ?_⟩⟩
        rw [B_X12_alike_42, m_throws1, sw_c (by omega)]
        exact ⟨fun q => absurd q (by decide), fun _ => tl_ex uI_at (by decide) (inv_same hR hB hc (m00.f (by omega)))⟩
    · show F_X12_alike a1 a2 Sm (tl n 1 Sc _)
      rw [hs, F_X12_alike]
      refine m_jobFor hW (fun j hj hnm1 hse1 _ => ⟨fun _ => ?_, fun q => absurd q (ni_m1 (by omega))⟩) (fun hno => (no_view hno hj4 hnm hse (Or.inl rfl)).elim)
      refine m_jobFor hW (fun j' hj' hnm2 hse2 ha2 => (no_view (Or.inl hno) hj' hnm2 hse2 ha2).elim) (fun _ S' g1 g2 => ⟨fun _ => tl_ex g1 (by decide) (inv_same hR hB hc (m0.tr g2)), fun q => absurd rfl q⟩)
  · show F_X12_alike a1 a2 Sm (tl n 1 Sc _)
    rw [hs, F_X12_alike]
    exact m_jobFor hW (fun j hj hnm1 hse1 ha1 => (no_view (Or.inl hno) hj hnm1 hse1 ha1).elim) (fun _ S' g1 g2 => ⟨fun q => absurd rfl q, fun _ => ⟨fun _ => tl_ex g1 (by decide) (inv_same hR hB hc g2), fun q => absurd rfl q⟩⟩)
/-- the eldest row at which the job was held, ago -/
def fhd (w : Wd) (j : Nat) : Nat → Option Nat
  | 0 => none
  | d + 1 => if row w d 1 = num w j ∧ row w d 2 = 1 then some d else fhd w j d
theorem fhd_lt {j : Nat} : ∀ {d a : Nat}, fhd w j d = some a → a < d := by
  intro d
  induction d with
  | zero => intro a h; cases h
  | succ d ih =>
    intro a h
    rw [fhd] at h
    split at h
    · cases h; omega
    · have := ih h; omega
theorem m_firstHeld {j : Nat} (hW : WF w ns np cm nl) (hj : j < 24) {k : Int32 → sSt → Prop} : F_X12_firstHeld (nI j) (sw S w) k ↔ k (oI (fhd w j nl)) (sw S w) := by
  have hl := hW.hnl
  rw [F_X12_firstHeld, sw_w, hl.2, forall_eq]
  suffices hh : ∀ d f, d ≤ nl → d < f → (B_X12_firstHeld_10 f (nI j) (nI d - 1) (sw S w) k ↔ k (oI (fhd w j d)) (sw S w)) from hh nl fuel (by omega) (fuel_gt (by omega))
  intro d
  induction d with
  | zero =>
    intro f hd hf
    obtain ⟨f, rfl⟩ : ∃ y, f = y + 1 := ⟨f - 1, by omega⟩
    simp only [B_X12_firstHeld_10_s, Bb_X12_firstHeld_10, show nI 0 - 1 = (-1 : Int32) from by decide, show (-1 : Int32) < 0 from by decide, true_implies, not_true_eq_false, false_implies, and_true, fhd, oI]
  | succ d ih =>
    intro f hd hf
    obtain ⟨f, rfl⟩ : ∃ y, f = y + 1 := ⟨f - 1, by omega⟩
    have e : nI (d + 1) - 1 = nI d := by rw [show (1 : Int32) = nI 1 from rfl, pk_sub (by omega)]; rfl
    have e2 : nI d + (-1) = nI d - 1 := by rw [Int32.sub_eq_add_neg]
    have := ih f (by omega) (by omega)
    simp only [B_X12_firstHeld_10_s, Bb_X12_firstHeld_10, B_X12_firstHeld_38, e, nI_pos (show d < 2147483648 by omega), false_implies, true_and, not_false_eq_true, true_implies, m_l1 (show d < 60 by omega), m_l2 (show d < 60 by omega), m_numberOf hj, sw_w, forall_eq, e2, this, fhd]
    by_cases c1 : row w d 1 = num w j <;> by_cases c2 : row w d 2 = 1 <;> simp [c1, c2, oI]
/-- as the class counts the rows -/
def oA (nl : Nat) (x : Option Nat) : Int32 := match x with | none => -1 | some a => nI (nl - 1 - a)
theorem oA_s {nl a : Nat} : oA nl (some a) = nI (nl - 1 - a) := rfl
theorem x_firstHold (h : zB Sc l w π ns np cm nl) {j : Nat} {k : Int32 → sSt → Prop} : F_X2_firstHold l (num w j) Sc k ↔ k (oA nl (fhd w j nl)) Sc := by
  have hl := h.2.2.1.hnl
  rw [F_X2_firstHold]
  suffices hh : ∀ d i f, d + i = nl → d < f → (B_X2_firstHold_2 f l (num w j) (nI i) Sc k ↔ k (oA nl (fhd w j d)) Sc) from hh nl 0 fuel (by omega) (fuel_gt (by omega))
  intro d
  induction d with
  | zero =>
    intro i f hd hf
    obtain ⟨f, rfl⟩ : ∃ y, f = y + 1 := ⟨f - 1, by omega⟩
    have e : i = nl := by omega
    simp only [B_X2_firstHold_2_s, Bb_X2_firstHold_2, x_size h, e, nI_leI (show nl < 2147483648 by omega) (show nl < 2147483648 by omega), Nat.le_refl, true_implies, not_true_eq_false, false_implies, and_true, fhd, oA]
  | succ d ih =>
    intro i f hd hf
    obtain ⟨f, rfl⟩ : ∃ y, f = y + 1 := ⟨f - 1, by omega⟩
    have hlt : ¬ nI nl ≤ nI i := nI_ge (by omega) (by omega)
    have := ih (i + 1) f (by omega) (by omega)
    have ei : nI i = nI (nl - 1 - d) := by congr 1; omega
    simp only [B_X2_firstHold_2_s, Bb_X2_firstHold_2, F_X2_isHeldOf, x_size h, hlt, false_implies, true_and, not_false_eq_true, true_implies, nI_1, forall_eq, this, fhd]
    rw [ei, x_c1 h (show d < nl by omega), x_c2 h (show d < nl by omega)]
    by_cases c1 : row w d 1 = num w j <;> by_cases c2 : row w d 2 = 1 <;> simp [c1, c2, oA_s, this]
def ovt (w : Wd) (nl : Nat) (g : Int32) (a b : Nat) : Bool := (isin w a && isin w b) && (isof w a g && isof w b g) && decide (num w b < num w a) && !decide (oI (fhd w a nl) ≤ oI (fhd w b nl))
theorem lp_sumI {L : Nat → Int32 → Int32 → Prop} {K : Int32 → Prop} {N : Nat} (P : Nat → Bool) (he : ∀ m c, L (m + 1) c (nI N) ↔ K c) (hs : ∀ m c i, i < N → (L (m + 1) c (nI i) ↔ L m (c + b2i (P i)) (nI (i + 1)))) :
    ∀ (r i m : Nat) (c : Int32), i + r = N → r < m → (L m c (nI i) ↔ K (c + nI ((List.range' i r).countP P))) := by
  intro r
  induction r with
  | zero =>
    intro i m c hi hm
    obtain ⟨m, rfl⟩ : ∃ q, m = q + 1 := ⟨m - 1, by omega⟩
    have : i = N := by omega
    subst this
    rw [he, show nI ((List.range' i 0).countP P) = 0 from rfl, Int32.add_zero]
  | succ r ih =>
    intro i m c hi hm
    obtain ⟨m, rfl⟩ : ∃ q, m = q + 1 := ⟨m - 1, by omega⟩
    rw [hs m _ i (by omega), b2i_n, ih (i + 1) m _ (by omega) (by omega), List.range'_succ, List.countP_cons, Int32.add_assoc, nI_add]
    have : (P i).toNat + (List.range' (i + 1) r).countP P = ((List.range' (i + 1) r).countP P + if P i = true then 1 else 0) := by cases P i <;> simp <;> omega
    rw [this]
theorem m_over42 (hW : WF w ns np cm nl) {g : Int32} {kk : Int32 → Int32 → Int32 → sSt → Prop} {a : Nat} {c : Int32} (ha : a < 24) {k : Int32 → sSt → Prop} : B_X12_overtaken_42 kk fuel g c (nI a) 0 (sw S w) k ↔ kk g (c + nI ((List.range' 0 24).countP (ovt w nl g a))) (nI (a + 1)) (sw S w) := by
  refine lp_sumI (L := fun m c i => B_X12_overtaken_42 kk m g c (nI a) i (sw S w) k) (K := fun c => kk g c (nI (a + 1)) (sw S w)) (N := 24) (ovt w nl g a) (fun m c => ?_) (fun m c i hi => ?_) 24 0 fuel c (by omega) (fuel_gt (by omega))
  · simp only [B_X12_overtaken_42_s, Bb_X12_overtaken_42]
    simp [show (24 : Int32) ≤ nI 24 from by decide, nI_1]
  · have h : ¬ (24 : Int32) ≤ nI i := nI_ge (b := 24) hi (by omega)
    simp only [B_X12_overtaken_42_s, Bb_X12_overtaken_42, B_X12_overtaken_103, B_X12_overtaken_104, B_X12_overtaken_130, B_X12_overtaken_131, m_isIn ha, m_isIn hi, m_isOf ha, m_isOf hi, m_numberOf ha, m_numberOf hi, m_firstHeld hW ha, m_firstHeld hW hi, sw_w, h, false_implies, true_and, not_false_eq_true, true_implies, forall_eq, nI_1, b2i_0, Bool.not_eq_false]
    unfold ovt
    have e : (num w a ≤ num w i) ↔ ¬ (num w i < num w a) := Int32.not_lt.symm
    rw [e]
    cases c0 : isin w a <;> cases c1 : isin w i <;> cases c2 : isof w a g <;> cases c3 : isof w i g <;> by_cases c4 : num w i < num w a <;> by_cases c5 : oI (fhd w a nl) ≤ oI (fhd w i nl) <;> simp [c4, c5, b2i, -Int32.not_lt, -Int32.not_le]
theorem m_over33 (hW : WF w ns np cm nl) {g : Int32} {k : Int32 → sSt → Prop} : B_X12_overtaken_33 fuel g 0 0 (sw S w) k ↔ k (nI ((List.range' 0 24).map (fun a => (List.range' 0 24).countP (ovt w nl g a))).sum) (sw S w) := by
  have := lp_fun (L := fun m c i => B_X12_overtaken_33 m g c i (sw S w) k) (K := fun c => k c (sw S w)) (N := 24) (fun a => (List.range' 0 24).countP (ovt w nl g a)) (fun m c => by
    simp only [B_X12_overtaken_33_s, Bb_X12_overtaken_33]
    simp [show (24 : Int32) ≤ nI 24 from by decide]) (fun m c i hi => by
    have h : ¬ (24 : Int32) ≤ nI i := nI_ge (b := 24) hi (by omega)
    simp only [B_X12_overtaken_33_s, Bb_X12_overtaken_33, h, false_implies, true_and, not_false_eq_true, true_implies]
    rw [m_over42 hW hi]) 24 0 fuel 0 (by omega) (fuel_gt (by omega))
  rw [Nat.zero_add] at this
  exact this
theorem oA_ord {nl : Nat} {x y : Option Nat} (hl : nl ≤ 60) (hx : ∀ a, x = some a → a < nl) (hy : ∀ a, y = some a → a < nl) {k1 k0 : Prop} : ((oA nl x = -1 → k0) ∧ (¬ oA nl x = -1 → (oA nl y = -1 → k1) ∧ (¬ oA nl y = -1 → (oA nl y ≤ oA nl x → k0) ∧ (¬ oA nl y ≤ oA nl x → k1)))) ↔ (if oI x ≤ oI y then k0 else k1) := by
  have e : ∀ a : Nat, a < nl → ¬ nI a = -1 := fun a ha => ni_m1 (by omega)
  cases x with
  | none =>
    have : oI none ≤ oI y := by
      cases y with
      | none => exact Int32.le_refl _
      | some b => have := hy b rfl; show (-1 : Int32) ≤ nI b; exact Int32.le_trans (show (-1 : Int32) ≤ 0 from by decide) (nI_pos' (by omega))
    rw [if_pos this]
    simp [oA]
  | some a =>
    have ha := hx a rfl
    cases y with
    | none =>
      have : ¬ oI (some a) ≤ oI none := by
        show ¬ nI a ≤ (-1 : Int32)
        intro q
        exact absurd (Int32.le_trans (nI_pos' (show a < 2147483648 by omega)) q) (by decide)
      rw [if_neg this]
      simp [oA, e (nl - 1 - a) (by omega)]
    | some b =>
      have hb := hy b rfl
      simp only [oA, oI, e (nl - 1 - a) (by omega), e (nl - 1 - b) (by omega), false_implies, true_and, not_false_eq_true, true_implies, nI_leI (show nl - 1 - b < 2147483648 by omega) (show nl - 1 - a < 2147483648 by omega), nI_leI (show a < 2147483648 by omega) (show b < 2147483648 by omega)]
      by_cases c : a ≤ b
      · simp [c, show nl - 1 - b ≤ nl - 1 - a by omega]
      · simp [c, show ¬ nl - 1 - b ≤ nl - 1 - a by omega]
theorem x_isStoredIn (h : zB Sc l w π ns np cm nl) {i : Nat} (hi : i < π.length) {g : Int32} {k : Int32 → sSt → Prop} : F_X6_isStoredIn l (nI i) g Sc k ↔ k (b2i (isin w (pl π i) && isof w (pl π i) g)) Sc := by
  have q := sto_is h.2.2.1 (h.2.1.at hi) (h.2.1.la hi)
  have hlen := h.2.1.len
  rw [F_X6_isStoredIn, ix_n (by omega) (by omega), x_sto h.1 hi, x_grp h.1 h.2.1 h.2.2.1 hi]
  unfold isof
  rw [h.2.1.la hi]
  cases c0 : isin w (pl π i)
  · simp [q.mpr c0, b2i]
  · have hz : ¬ w (21 + 47 * pl π i + 1) = 0 := fun z => by rw [q.mp z] at c0; exact absurd c0 (by decide)
    unfold grp
    by_cases c : w (anyv w (pl π i)) = g <;> simp [hz, c, b2i]
theorem x_isOvertaken (h : zB Sc l w π ns np cm nl) {i i' : Nat} (hi : i < π.length) (hi' : i' < π.length) {k : Int32 → sSt → Prop} : F_X6_isOvertaken l (nI i') (nI i) Sc k ↔ k (b2i (!decide (oI (fhd w (pl π i) nl) ≤ oI (fhd w (pl π i') nl)))) Sc := by
  have hlen := h.2.1.len
  rw [F_X6_isOvertaken, ix_n (by omega) (by omega), x_num h.1 hi, x_firstHold h, ix_n (by omega) (by omega), x_num h.1 hi', x_firstHold h, B_X6_isOvertaken_52, oA_ord h.2.2.1.hnl.1 (fun a q => fhd_lt q) (fun a q => fhd_lt q)]
  by_cases c : oI (fhd w (pl π i) nl) ≤ oI (fhd w (pl π i') nl) <;> simp [c, b2i, -Int32.not_le]
theorem x_over15 (h : zB Sc l w π ns np cm nl) {g : Int32} {kk : Nat → Int32 → Int32 → Int32 → sSt → Prop} {i : Nat} {c : Int32} (hi : i < π.length) {k : Int32 → sSt → Prop} : B_X6_overtakenPairs_15 kk fuel l g c (nI i) 0 Sc k ↔ kk l g (c + nI ((List.range' 0 i).countP (fun i' => ovt w nl g (pl π i) (pl π i')))) (nI (i + 1)) Sc := by
  have hlen := h.2.1.len
  refine lp_sumI (L := fun m c y => B_X6_overtakenPairs_15 kk m l g c (nI i) y Sc k) (K := fun c => kk l g c (nI (i + 1)) Sc) (N := i) (fun i' => ovt w nl g (pl π i) (pl π i')) (fun m c => ?_) (fun m c i' hi' => ?_) i 0 fuel c (by omega) (fuel_gt (by omega))
  · simp only [B_X6_overtakenPairs_15_s, Bb_X6_overtakenPairs_15, nI_leI (show i < 2147483648 by omega) (show i < 2147483648 by omega), Nat.le_refl, true_implies, not_true_eq_false, false_implies, and_true, forall_eq, nI_1]
  · have hlt : ¬ nI i ≤ nI i' := nI_ge (by omega) (by omega)
    simp only [B_X6_overtakenPairs_15_s, Bb_X6_overtakenPairs_15, B_X6_overtakenPairs_44, B_X6_overtakenPairs_45, B_X6_overtakenPairs_67, B_X6_overtakenPairs_68, hlt, x_isStoredIn h hi, x_isStoredIn h (show i' < π.length by omega), x_isOvertaken h hi (show i' < π.length by omega), false_implies, true_and, not_false_eq_true, true_implies, forall_eq, nI_1, b2i_0, Bool.not_eq_false]
    have hs := h.2.1.sorted hi' hi
    unfold ovt
    cases c0 : isin w (pl π i) <;> cases c1 : isin w (pl π i') <;> cases c2 : isof w (pl π i) g <;> cases c3 : isof w (pl π i') g <;> by_cases c5 : oI (fhd w (pl π i) nl) ≤ oI (fhd w (pl π i') nl) <;> simp [hs, c5, b2i, -Int32.not_lt, -Int32.not_le]
theorem ovt_sum (hO : zOrd w π) {g : Int32} {i : Nat} (hi : i < π.length) : (List.range' 0 i).countP (fun i' => ovt w nl g (pl π i) (pl π i')) = (List.range' 0 24).countP (ovt w nl g (pl π i)) := by
  have e1 : (List.range' 0 24).countP (ovt w nl g (pl π i)) = π.countP (ovt w nl g (pl π i)) := by
    rw [hO.cnt]
    refine List.countP_congr fun o _ => ?_
    constructor
    · intro q
      have : isin w o = true := by simp only [ovt, Bool.and_eq_true] at q; exact q.1.1.1.2
      rw [isin_lie this, q]; rfl
    · intro q; simp only [Bool.and_eq_true] at q; exact q.2
  rw [e1, ← cnt_pl π]
  have e2 : List.range' 0 π.length = List.range' 0 i ++ List.range' i (π.length - i) := by
    have := List.range'_append_1 (s := 0) (m := i) (n := π.length - i)
    rw [Nat.zero_add, show i + (π.length - i) = π.length from by omega] at this
    exact this.symm
  rw [e2, List.countP_append]
  have e3 : (List.range' i (π.length - i)).countP (fun i' => ovt w nl g (pl π i) (pl π i')) = 0 := by
    rw [List.countP_eq_zero]
    intro y hy q
    rw [List.mem_range'_1] at hy
    simp only [ovt, Bool.and_eq_true, decide_eq_true_eq] at q
    have q2 := q.1.2
    by_cases z : y = i
    · rw [z] at q2; exact absurd q2 Int32.lt_irrefl
    · exact absurd (Int32.lt_trans q2 (hO.sorted (show i < y by omega) (by omega))) Int32.lt_irrefl
  rw [e3, Nat.add_zero]
theorem x_over (h : zB Sc l w π ns np cm nl) {g : Int32} {k : Int32 → sSt → Prop} : F_X6_overtakenPairs l g Sc k ↔ k (nI ((List.range' 0 24).map (fun a => (List.range' 0 24).countP (ovt w nl g a))).sum) Sc := by
  have hlen := h.2.1.len
  have e : ((List.range' 0 24).map (fun a => (List.range' 0 24).countP (ovt w nl g a))).sum = ((List.range' 0 π.length).map (fun i => (List.range' 0 i).countP (fun i' => ovt w nl g (pl π i) (pl π i')))).sum := by
    rw [← h.2.1.sum (fun a => (List.range' 0 24).countP (ovt w nl g a)) (fun x hx => by
      rw [List.countP_eq_zero]
      intro y _ q
      simp only [ovt, Bool.and_eq_true] at q
      have := isin_lie q.1.1.1.1
      rw [hx] at this; exact absurd this (by decide))]
    congr 1
    refine List.map_congr_left fun i hi => ?_
    rw [List.mem_range'_1] at hi
    exact (ovt_sum h.2.1 (by omega)).symm
  rw [e, F_X6_overtakenPairs]
  have key := lp_fun (L := fun m c i => B_X6_overtakenPairs_4 m l g c i Sc k) (K := fun c => k c Sc) (N := π.length) (fun i => (List.range' 0 i).countP (fun i' => ovt w nl g (pl π i) (pl π i'))) (fun m c => by
    simp only [B_X6_overtakenPairs_4_s, Bb_X6_overtakenPairs_4, h.1.size, nI_leI (show π.length < 2147483648 by omega) (show π.length < 2147483648 by omega), Nat.le_refl, true_implies, not_true_eq_false, false_implies, and_true]) (fun m c i hi => by
    have hlt : ¬ nI π.length ≤ nI i := nI_ge hi (by omega)
    simp only [B_X6_overtakenPairs_4_s, Bb_X6_overtakenPairs_4, h.1.size, hlt, false_implies, true_and, not_false_eq_true, true_implies, x_over15 h hi])
  rcases Nat.eq_zero_or_pos π.length with q | q
  · have e5 : (fuel : Nat) = (fuel - 1) + 1 := by have := fuel_gt (n := 1) (by omega); omega
    rw [e5, q]
    simp only [B_X6_overtakenPairs_4_s, Bb_X6_overtakenPairs_4, h.1.size, q]
    simp [show nI 0 ≤ (1 : Int32) from by decide, show nI 0 = 0 from rfl]
  · have := key (π.length - 1) 1 fuel 0 (by omega) (fuel_gt (by omega))
    rw [show (1 : Int32) = nI 1 from rfl, show (0 : Int32) = nI 0 from rfl]
    rw [this]
    have e6 : List.range' 0 π.length = 0 :: List.range' 1 (π.length - 1) := by
      rw [show π.length = (π.length - 1) + 1 from by omega, List.range'_succ]; rfl
    rw [e6, List.map_cons, List.sum_cons]
    simp
theorem cs_37 (h : Inv n Sc Sm) {a1 a2 a3 a4 a5 : Int32} {o : Int64} : CS_37 a1 a2 a3 a4 a5 Sc Sm o (fun S1 S2 _ => Inv (n + 1) S1 S2) := by
  obtain ⟨l, sp, π, ns, np, cm, nl, hR, hB, hc⟩ := h
  obtain ⟨w, hw⟩ : ∃ w, w = Sm.1 1 0 := ⟨_, rfl⟩
  have hs : Sm = sw Sm w := by rw [hw, sw_s]
  rw [← hw] at hB
  have hW := hB.2.2.1
  have m0 : MK Sm (uI Sm 0 0 0 0) := MK.rfl.f (by omega)
  have hI := inv_same hR hB hc m0
  show FW_overtaken a1 Sc o (fun r1 S2 o3 => F_X12_overtaken a1 Sm (tl n r1 S2 o3))
  unfold FW_overtaken F_X11_overtaken F_X11_needGroup
  have bad : (¬ ∃ y, y ≤ 5 ∧ a1 = nI y) → F_X12_overtaken a1 Sm (tl n 1 Sc o) := by
    intro hno
    rw [hs, F_X12_overtaken]
    rintro S1 rfl
    rw [sw_c (by omega), m_in, show (5 : Int32) = nI 5 from rfl, bfalse (rng_in (by omega)) hno]
    refine ⟨fun q => absurd rfl q, fun _ => ?_⟩
    rw [B_X12_overtaken_20, m_throws1, sw_c (by omega)]
    exact ⟨fun q => absurd q (by decide), fun _ => tl_ex uI_at (by decide) (inv_same hR hB hc (m0.f (by omega)))⟩
  rw [B_X11_needGroup_10]
  refine ⟨fun c => ⟨fun _ => bad ?_, fun q => absurd rfl q⟩, fun c => ⟨fun c2 => ?_, fun c2 => ⟨fun _ => bad ?_, fun q => absurd rfl q⟩⟩⟩
  · rintro ⟨y, y1, y2⟩; rw [y2] at c; exact nI_pos (by omega) c
  · obtain ⟨y, y1, y2⟩ := nI_of c
    have hy : y < 6 := by rw [y2, show (6 : Int32) = nI 6 from rfl, nI_ltI y1 (by omega)] at c2; exact c2
    rw [hR.2.1, x_over hB]
    show F_X12_overtaken a1 Sm (tl n 0 Sc _)
    rw [hs, F_X12_overtaken]
    rintro S1 rfl
    rw [sw_c (by omega), m_in, show (5 : Int32) = nI 5 from rfl, (rng_in (by omega)).mpr ⟨y, by omega, y2⟩]
    refine ⟨fun _ => ?_, fun q => absurd q (by decide)⟩
    rw [B_X12_overtaken_20, m_throws0]
    refine ⟨fun _ => ?_, fun q => absurd rfl q⟩
    rw [m_over33 hW]
    exact tl_ok uI_at hI rfl
  · rintro ⟨y, y1, y2⟩; rw [y2] at c2; exact c2 (nI_lt (b := 6) (by omega) (by omega))
end CS
end PU33
