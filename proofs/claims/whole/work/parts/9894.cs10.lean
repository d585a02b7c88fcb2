section PU32
/-! CALLS: find, root, alike -/
def ofk (w : Wd) (j : Nat) (kind : Int32) : Bool := if kind = 4 then decide (lkr w j ≠ -1) else isin w j && (if kind = 5 then decide (w (21 + 47 * j + 3 + 3) = 0) && !decide (w 3 < w (21 + 47 * j + 3 + 5)) else if kind = 6 then decide (w (21 + 47 * j + 3 + 3) = 1) && !decide (w 3 ≤ w (21 + 47 * j + 3 + 10)) else decide (w (21 + 47 * j + 3 + 3) = kind))
def fnd (w : Wd) (kind : Int32) : List Nat → Nat → Int32
  | [], _ => -1
  | j :: l, left => cond (ofk w j kind) (if left = 0 then num w j else fnd w kind l (left - 1)) (fnd w kind l left)
theorem fnd_n {w : Wd} {kind : Int32} {j left : Nat} {l : List Nat} (h : ofk w j kind = false) : fnd w kind (j :: l) left = fnd w kind l left := by
  rw [fnd, h]; simp
theorem fnd_0 {w : Wd} {kind : Int32} {j : Nat} {l : List Nat} (h : ofk w j kind = true) : fnd w kind (j :: l) 0 = num w j := by
  rw [fnd, h]; simp
theorem fnd_s {w : Wd} {kind : Int32} {j d : Nat} {l : List Nat} (h : ofk w j kind = true) : fnd w kind (j :: l) (d + 1) = fnd w kind l d := by
  rw [fnd, h]; simp
section CS
variable {Sc Sc' Sm S' S : sSt} {l sp n : Nat} {w w' : Wd} {π π' : List Nat} {ns np cm nl ns' np' cm' nl' : Nat}
theorem m_isOfKind {j : Nat} (hj : j < 24) {kind : Int32} {k : Int32 → sSt → Prop} : F_X12_isOfKind (nI j) kind (sw S w) k ↔ k (b2i (ofk w j kind)) (sw S w) := by
  rw [F_X12_isOfKind]
  simp only [m_isIn hj, m_lockerOf hj, sw_w, m_jobAt3, na_3, na_5, na_10]
  simp only [ix_n (show 21 + 47 * j + 3 + 3 < 10421 by omega) (show 10421 ≤ 2147483648 by omega), ix_n (show 21 + 47 * j + 3 + 5 < 10421 by omega) (show 10421 ≤ 2147483648 by omega), ix_n (show 21 + 47 * j + 3 + 10 < 10421 by omega) (show 10421 ≤ 2147483648 by omega), sw_w, b2i_0, Bool.not_eq_false]
  unfold ofk
  by_cases c4 : kind = 4
  · rw [if_pos c4]
    by_cases c : lkr w j = -1 <;> simp [c4, c, b2i]
  · rw [if_neg c4]
    cases c0 : isin w j
    · simp [c4, b2i]
    · by_cases c5 : kind = 5
      · by_cases c : w (21 + 47 * j + 3 + 3) = 0 <;> by_cases c2 : w 3 < w (21 + 47 * j + 3 + 5) <;> simp [c5, c, c2, b2i, -Int32.not_lt]
      · by_cases c6 : kind = 6
        · by_cases c : w (21 + 47 * j + 3 + 3) = 1 <;> by_cases c2 : w 3 ≤ w (21 + 47 * j + 3 + 10) <;> simp [c6, c, c2, b2i, -Int32.not_le]
        · by_cases c : w (21 + 47 * j + 3 + 3) = kind <;> simp [c4, c5, c6, c, b2i]
theorem x_base (h : zB Sc l w π ns np cm nl) {i : Nat} (hi : i < π.length) (hin : isin w (pl π i) = true) : VR Sc (Sc.2 14 l i) (6 * Sc.2 14 l i) w (21 + 47 * pl π i + 3) := (h.1.job i hi).1.2.2.2.1 (isin_1 hin)
theorem x_isLate (h : zB Sc l w π ns np cm nl) {v p : Nat} {q : Nat} (hv : VR Sc q v w p) {k : Int32 → sSt → Prop} : F_X6_isLate l v Sc k ↔ k (b2i (decide (w (p + 3) = 1) && !decide (w 3 ≤ w (p + 10)))) Sc := by
  have h3 : Sc.1 22 v 0 = w (p + 3) := hv 3 (by omega)
  have h10 : Sc.1 22 v 7 = w (p + 10) := hv 10 (by omega)
  have hm : Sc.1 13 l 10 = w 3 := h.1.sca.1 3 (by omega)
  rw [F_X6_isLate, h3, h10, hm]
  by_cases c : w (p + 3) = 1 <;> by_cases c2 : w 3 ≤ w (p + 10) <;> simp [c, c2, b2i, -Int32.not_le]
theorem x_isOfKind (h : zB Sc l w π ns np cm nl) {i : Nat} (hi : i < π.length) {kind : Int32} {k : Int32 → sSt → Prop} : F_X6_isOfKind l (Sc.2 14 l i) kind Sc k ↔ k (b2i (ofk w (pl π i) kind)) Sc := by
  have q := sto_is h.2.2.1 (h.2.1.at hi) (h.2.1.la hi)
  have hm : Sc.1 13 l 10 = w 3 := h.1.sca.1 3 (by omega)
  rw [F_X6_isOfKind, x_sto h.1 hi, x_lkr h.1 hi]
  unfold ofk
  by_cases c4 : kind = 4
  · rw [if_pos c4]
    by_cases c : lkr w (pl π i) = -1 <;> simp [c4, c, b2i]
  · rw [if_neg c4]
    cases c0 : isin w (pl π i)
    · have := q.mpr c0
      simp [c4, this, b2i]
    · have hz : ¬ w (21 + 47 * pl π i + 1) = 0 := fun z => by rw [q.mp z] at c0; exact absurd c0 (by decide)
      have hv := x_base h hi c0
      have h3 : Sc.1 22 (6 * Sc.2 14 l i) 0 = w (21 + 47 * pl π i + 3 + 3) := hv 3 (by omega)
      have h5 : Sc.1 22 (6 * Sc.2 14 l i) 1 = w (21 + 47 * pl π i + 3 + 5) := hv 5 (by omega)
      rw [x_isLate h hv, h3, h5, hm, bz_b]
      by_cases c5 : kind = 5
      · by_cases c : w (21 + 47 * pl π i + 3 + 3) = 0 <;> by_cases c2 : w 3 < w (21 + 47 * pl π i + 3 + 5) <;> simp [c5, c, c2, hz, b2i, -Int32.not_lt]
      · by_cases c6 : kind = 6
        · simp [c6, hz]
        · by_cases c : w (21 + 47 * pl π i + 3 + 3) = kind <;> simp [c4, c5, c6, c, hz, b2i]
theorem x_numberFound (h : zB Sc l w π ns np cm nl) {kind kk : Int32} {k : Int32 → sSt → Prop} : F_X6_numberFound l kind kk Sc k ↔ k (if kk < 0 then -1 else fnd w kind π kk.toNatClampNeg) Sc := by
  have hlen := h.2.1.len
  rw [F_X6_numberFound]
  suffices hh : ∀ r i f m, i + r = π.length → r < m → f ≤ i → (B_X6_numberFound_5 m l kind kk (nI f) (nI i) Sc k ↔ k (if kk < nI f then -1 else fnd w kind (π.drop i) (kk.toNatClampNeg - f)) Sc) by
    have := hh π.length 0 0 fuel (by omega) (fuel_gt (by omega)) (by omega)
    rw [List.drop_zero, Nat.sub_zero] at this; exact this
  intro r
  induction r with
  | zero =>
    intro i f m hi hm hf
    obtain ⟨m, rfl⟩ : ∃ y, m = y + 1 := ⟨m - 1, by omega⟩
    have e : i = π.length := by omega
    subst e
    have e2 : π.drop π.length = [] := List.drop_eq_nil_of_le (by omega)
    simp only [B_X6_numberFound_5_s, Bb_X6_numberFound_5, h.1.size, nI_leI (show π.length < 2147483648 by omega) (show π.length < 2147483648 by omega), Nat.le_refl, true_implies, not_true_eq_false, false_implies, and_true, e2, fnd, ite_self]
  | succ r ih =>
    intro i f m hi hm hf
    obtain ⟨m, rfl⟩ : ∃ y, m = y + 1 := ⟨m - 1, by omega⟩
    have hil : i < π.length := by omega
    have hlt : ¬ nI π.length ≤ nI i := nI_ge hil (by omega)
    simp only [B_X6_numberFound_5_s, Bb_X6_numberFound_5, B_X6_numberFound_48, h.1.size, hlt, false_implies, true_and, not_false_eq_true, true_implies]
    rw [ix_n (by omega) (by omega), x_isOfKind h hil, x_num h.1 hil, drop_pl hil]
    simp only [forall_eq, nI_1, b2i_0, Bool.not_eq_false, ih (i + 1) f m (by omega) (by omega) (by omega), ih (i + 1) (f + 1) m (by omega) (by omega) (by omega)]
    cases c : ofk w (pl π i) kind
    · rw [fnd_n c]; simp
    · simp only [Bool.true_eq_false, false_implies, true_and, true_implies]
      by_cases c1 : nI f = kk
      · have e1 : ¬ kk < nI f := by rw [← c1]; exact Int32.lt_irrefl
        have e2 : kk.toNatClampNeg = f := by rw [← c1]; exact nI_clamp (by omega)
        rw [if_neg e1, e2, Nat.sub_self, fnd_0 c]
        simp [c1]
      · simp only [c1, not_false_eq_true, true_implies, false_implies, and_true]
        by_cases c2 : kk < nI f
        · rw [if_pos c2, if_pos (Int32.lt_trans c2 (nI_lt (by omega) (by omega)))]
        · have c3 : ¬ kk < 0 := fun z => c2 (Int32.lt_of_lt_of_le z (nI_pos' (by omega)))
          obtain ⟨y, y1, y2⟩ := nI_of c3
          have hy : f < y := by
            rw [y2, nI_ltI y1 (by omega)] at c2
            rw [y2, nI_eq (by omega) y1] at c1
            omega
          have c4 : ¬ kk < nI (f + 1) := by rw [y2, nI_ltI y1 (by omega)]; omega
          rw [if_neg c2, if_neg c4, y2, nI_clamp y1, show y - f = (y - (f + 1)) + 1 from by omega, fnd_s c]
theorem m_find39 (hO : zOrd w π) (hW : WF w ns np cm nl) {kind kk : Int32} {k : Int32 → sSt → Prop} : B_X12_find_39 fuel kind kk (oI (nth π 0)) (sw S w) k ↔ k (if kk < 0 then -1 else fnd w kind π kk.toNatClampNeg) (sw S w) := by
  have hlen := hO.len
  suffices hh : ∀ r i m kk, i + r = π.length → r < m → (B_X12_find_39 m kind kk (oI (nth π i)) (sw S w) k ↔ k (if kk < 0 then -1 else fnd w kind (π.drop i) kk.toNatClampNeg) (sw S w)) by
    have := hh π.length 0 fuel kk (by omega) (fuel_gt (by omega))
    rw [List.drop_zero] at this; exact this
  intro r
  induction r with
  | zero =>
    intro i m kk hi hm
    obtain ⟨m, rfl⟩ : ∃ y, m = y + 1 := ⟨m - 1, by omega⟩
    have e : nth π i = none := by unfold nth; rw [if_neg (by omega)]
    have e2 : π.drop i = [] := List.drop_eq_nil_of_le (by omega)
    simp only [B_X12_find_39_s, Bb_X12_find_39, e, oI, true_implies, not_true_eq_false, false_implies, and_true, e2, fnd, ite_self]
  | succ r ih =>
    intro i m kk hi hm
    obtain ⟨m, rfl⟩ : ∃ y, m = y + 1 := ⟨m - 1, by omega⟩
    have hil : i < π.length := by omega
    have hj4 := hO.at hil
    have eb : bhd w (num w (pl π i)) = nth π (i + 1) := bhd_s hO hW hil
    simp only [B_X12_find_39_s, Bb_X12_find_39, B_X12_find_76, oI_nth hil, ni_m1 (show pl π i < 2147483648 by omega), false_implies, true_and, not_false_eq_true, true_implies, m_isOfKind hj4, m_numberOf hj4, sw_w, m_behind, eb, forall_eq, b2i_0, Bool.not_eq_false, ih (i + 1) m _ (by omega) (by omega)]
    rw [drop_pl hil]
    by_cases c0 : kk < 0
    · simp [c0]
    · obtain ⟨y, y1, y2⟩ := nI_of c0
      simp only [c0, false_implies, true_and, not_false_eq_true, true_implies, if_false]
      cases c : ofk w (pl π i) kind
      · rw [fnd_n c]; simp
      · simp only [Bool.true_eq_false, false_implies, and_true, true_implies]
        by_cases c1 : kk = 0
        · rw [c1, show (0 : Int32).toNatClampNeg = 0 from rfl, fnd_0 c]; simp
        · simp only [c1, not_false_eq_true, true_implies, false_implies, and_true]
          have hy : 0 < y := by
            rcases Nat.eq_zero_or_pos y with q | q
            · rw [q] at y2; exact absurd y2 c1
            · exact q
          have e1 : kk + (-1) = nI (y - 1) := by rw [y2, show y = (y - 1) + 1 from by omega, pk_m1]; congr 1
          rw [e1, if_neg (nI_pos (by omega)), nI_clamp (by omega), y2, nI_clamp y1]
          have e2 : fnd w kind (pl π i :: π.drop (i + 1)) y = fnd w kind (π.drop (i + 1)) (y - 1) := by
            have := fnd_s (d := y - 1) (l := π.drop (i + 1)) c
            rw [show y - 1 + 1 = y from by omega] at this; exact this
          rw [e2]
theorem cs_40 (h : Inv n Sc Sm) {a1 a2 a3 a4 a5 : Int32} {o : Int64} : CS_40 a1 a2 a3 a4 a5 Sc Sm o (fun S1 S2 _ => Inv (n + 1) S1 S2) := by
  obtain ⟨l, sp, π, ns, np, cm, nl, hR, hB, hc⟩ := h
  obtain ⟨w, hw⟩ : ∃ w, w = Sm.1 1 0 := ⟨_, rfl⟩
  have hs : Sm = sw Sm w := by rw [hw, sw_s]
  rw [← hw] at hB
  have hW := hB.2.2.1
  have m0 : MK Sm (uI Sm 0 0 0 0) := MK.rfl.f (by omega)
  have hI := inv_same hR hB hc m0
  show FW_find a1 a2 Sc o (fun r1 S2 o3 => F_X12_find a1 a2 Sm (tl n r1 S2 o3))
  unfold FW_find F_X11_find
  have bad : (¬ ∃ y, y ≤ 6 ∧ a1 = nI y) → F_X12_find a1 a2 Sm (tl n 1 Sc o) := by
    intro hno
    rw [hs, F_X12_find]
    rintro S1 rfl
    rw [sw_c (by omega), m_in, show (6 : Int32) = nI 6 from rfl, bfalse (rng_in (by omega)) hno]
    refine ⟨fun q => absurd rfl q, fun _ => ?_⟩
    rw [B_X12_find_21, m_throws1, sw_c (by omega)]
    exact ⟨fun q => absurd q (by decide), fun _ => tl_ex uI_at (by decide) (inv_same hR hB hc (m0.f (by omega)))⟩
  rw [B_X11_find_10, hR.2.1, x_numberFound hB]
  refine ⟨fun c => ⟨fun _ => bad ?_, fun q => absurd rfl q⟩, fun c => ⟨fun c2 => ?_, fun c2 => ⟨fun _ => bad ?_, fun q => absurd rfl q⟩⟩⟩
  · rintro ⟨y, y1, y2⟩; rw [y2] at c; exact nI_pos (by omega) c
  · obtain ⟨y, y1, y2⟩ := nI_of2 (M := 6) (n := 6) rfl c c2
    show F_X12_find a1 a2 Sm (tl n 0 Sc _)
    rw [hs, F_X12_find]
    rintro S1 rfl
    rw [sw_c (by omega), m_in, show (6 : Int32) = nI 6 from rfl, (rng_in (by omega)).mpr ⟨y, y1, y2⟩]
    refine ⟨fun _ => ?_, fun q => absurd q (by decide)⟩
    rw [B_X12_find_21, m_throws0]
    refine ⟨fun _ => ?_, fun q => absurd rfl q⟩
    rw [m_behind, sw_w, bhd_0 hB.2.1 hW, m_find39 hB.2.1 hW]
    exact tl_ok uI_at hI rfl
  · rintro ⟨y, y1, y2⟩; rw [y2] at c2; exact c2 (nI_le (b := 6) y1 (by omega))
/-- set aside, the eldest of its causes this one -/
def rtd (w : Wd) (j : Nat) (cause : Int32) : Bool := isin w j && (decide (w (21 + 47 * j + 3 + 3) = 3) && (!decide (w (21 + 47 * j + 3 + 7) ≤ 0) && decide (w (21 + 47 * j + 3 + 13 + (w (21 + 47 * j + 3 + 7)).toNatClampNeg - 1) = cause)))
theorem tabV (hW : WF w ns np cm nl) {j : Nat} (hj : j < 24) (hin : isin w j = true) : VOK w (21 + 47 * j + 3) := by
  rcases hW.job j hj with q | ⟨_, _, _, _, q4, _⟩
  · exact absurd q (lie_n (isin_lie hin))
  · exact q4 (isin_1 hin)
theorem m_root34 (hW : WF w ns np cm nl) {cause : Int32} {k : Int32 → sSt → Prop} : B_X12_root_34 fuel cause 0 0 (sw S w) k ↔ k (nI ((List.range' 0 24).countP (fun j => rtd w j cause))) (sw S w) := by
  refine lp_sum0 (L := fun m c i => B_X12_root_34 m cause c i (sw S w) k) (K := fun c => k c (sw S w)) _ (fuel_gt (by omega)) (fun m c => ?_) (fun m c i hi => ?_)
  · simp only [B_X12_root_34_s, Bb_X12_root_34]
    simp [show (24 : Int32) ≤ nI 24 from by decide]
  · have h : ¬ (24 : Int32) ≤ nI i := nI_ge (b := 24) hi (by omega)
    simp only [B_X12_root_34_s, Bb_X12_root_34, B_X12_root_113, B_X12_root_114, m_jobAt3, m_isIn hi, sw_w, h, false_implies, true_and, not_false_eq_true, true_implies, forall_eq, nI_1, b2i_0, Bool.not_eq_false, na_3, na_7, na_13]
    unfold rtd
    cases c0 : isin w i
    · simp [b2i]
    · obtain ⟨-, -, -, -, -, ⟨m7, m71, m72⟩, -⟩ := tabV hW hi c0
      rw [ix_n (by omega) (by omega), ix_n (by omega) (by omega), m72, nI_clamp (by omega)]
      by_cases c1 : w (21 + 47 * i + 3 + 3) = 3
      · by_cases c2 : m7 = 0
        · rw [c2]
          simp [c1, show nI 0 ≤ 0 from by decide, b2i]
        · have c3 : ¬ nI m7 ≤ 0 := nI_nle (by omega) (by omega)
          have e : (nI (21 + 47 * i + 3 + 13) + nI m7 - 1 : Int32) = nI (21 + 47 * i + 3 + 13 + m7 - 1) := by
            rw [nI_add, show (1 : Int32) = nI 1 from rfl, pk_sub (by omega)]
          rw [e, ix_n (by omega) (by omega)]
          generalize w (21 + 47 * i + 3 + 13 + m7 - 1) = z
          by_cases c4 : z = cause <;> simp [c1, c3, c4, b2i, -Int32.not_le]
      · simp [c1, b2i]
theorem x_setAside (h : zB Sc l w π ns np cm nl) {c : Nat} {k : Int32 → sSt → Prop} : F_X6_setAsideFrom l (nI c) Sc k ↔ c < 7 ∧ k (nI ((List.range' 0 24).countP (fun j => rtd w j (nI c)))) Sc ∨ ¬ c < 7 ∧ F_X6_setAsideFrom l (nI c) Sc k := by
  by_cases hc : c < 7
  · simp only [hc, true_and, not_true_eq_false, false_and, or_false]
    have hlen := h.2.1.len
    have e : (List.range' 0 24).countP (fun j => rtd w j (nI c)) = (List.range' 0 π.length).countP (fun i => rtd w (pl π i) (nI c)) := by
      rw [cnt_pl π (fun o => rtd w o (nI c)), h.2.1.cnt]
      refine List.countP_congr fun o _ => ?_
      constructor
      · intro q
        have : isin w o = true := by simp only [rtd, Bool.and_eq_true] at q; exact q.1
        rw [isin_lie this, q]; rfl
      · intro q; simp only [Bool.and_eq_true] at q; exact q.2
    rw [F_X6_setAsideFrom, e]
    refine lp_sum0 (L := fun m a i => B_X6_setAsideFrom_4 m l (nI c) a i Sc k) (K := fun a => k a Sc) _ (fuel_gt (by omega)) (fun m a => ?_) (fun m a i hi => ?_)
    · simp only [B_X6_setAsideFrom_4_s, Bb_X6_setAsideFrom_4, h.1.size]
      simp [nI_leI (show π.length < 2147483648 by omega) (show π.length < 2147483648 by omega)]
    · have hlt : ¬ nI π.length ≤ nI i := nI_ge hi (by omega)
      simp only [B_X6_setAsideFrom_4_s, Bb_X6_setAsideFrom_4, B_X6_setAsideFrom_48, B_X6_setAsideFrom_49, B_X6_setAsideFrom_75, h.1.size, hlt, false_implies, true_and, not_false_eq_true, true_implies]
      rw [ix_n (by omega) (by omega), x_sto h.1 hi]
      simp only [forall_eq, nI_1]
      have q := sto_is h.2.2.1 (h.2.1.at hi) (h.2.1.la hi)
      unfold rtd
      cases c0 : isin w (pl π i)
      · have := q.mpr c0; simp [this, b2i]
      · have hz : ¬ w (21 + 47 * pl π i + 1) = 0 := fun z => by rw [q.mp z] at c0; exact absurd c0 (by decide)
        have hv := x_base h hi c0
        have h3 : Sc.1 22 (6 * Sc.2 14 l i) 0 = w (21 + 47 * pl π i + 3 + 3) := hv 3 (by omega)
        obtain ⟨-, -, -, -, -, ⟨m7, m71, m72⟩, -⟩ := tabV h.2.2.1 (h.2.1.at hi) c0
        have h7 : Sc.1 22 (6 * Sc.2 14 l i) 3 = nI m7 := (hv 7 (by omega)).trans m72
        rw [h3, h7, m72, nI_clamp (by omega)]
        by_cases c1 : w (21 + 47 * pl π i + 3 + 3) = 3
        · simp only [hz, c1, false_implies, true_and, not_false_eq_true, true_implies, not_true_eq_false, show ¬ ((1 : Int32) = 0) from by decide, and_true, F_X9_causeAt, B_X9_causeAt_12, h7]
          by_cases c2 : m7 = 0
          · rw [c2]
            have cm : ¬ (-1 : Int32) = nI c := fun z => ni_m1 (n := c) (by omega) z.symm
            simp only [show nI 0 - 1 < (0 : Int32) from by decide, true_implies, not_true_eq_false, false_implies, and_true, cm, not_false_eq_true]
            simp [show nI 0 ≤ 0 from by decide, b2i]
          · have c3 : ¬ nI m7 ≤ 0 := nI_nle (by omega) (by omega)
            have e1 : nI m7 - 1 = nI (m7 - 1) := by rw [show (1 : Int32) = nI 1 from rfl, pk_sub (by omega)]
            have h4 : cz (Sc.1 22 (6 * Sc.2 14 l i) 4) (m7 - 1) = w (21 + 47 * pl π i + 3 + (m7 - 1 + 13)) := hv (m7 - 1 + 13) (by omega)
            rw [show 21 + 47 * pl π i + 3 + (m7 - 1 + 13) = 21 + 47 * pl π i + 3 + 13 + m7 - 1 from by omega] at h4
            unfold cz at h4
            rw [e1]
            simp only [nI_pos (show m7 - 1 < 2147483648 by omega), (nI_ltI (show m7 - 1 < 2147483648 by omega) (show m7 < 2147483648 by omega)).mpr (by omega), false_implies, true_and, not_false_eq_true, true_implies, not_true_eq_false, and_true, h4]
            clear h4
            generalize w (21 + 47 * pl π i + 3 + 13 + m7 - 1) = z
            by_cases c4 : z = nI c <;> simp [c3, c4, b2i, -Int32.not_le]
        · simp [hz, c1, b2i]
  · simp [hc]
theorem cs_39 (h : Inv n Sc Sm) {a1 a2 a3 a4 a5 : Int32} {o : Int64} : CS_39 a1 a2 a3 a4 a5 Sc Sm o (fun S1 S2 _ => Inv (n + 1) S1 S2) := by
  obtain ⟨l, sp, π, ns, np, cm, nl, hR, hB, hc⟩ := h
  obtain ⟨w, hw⟩ : ∃ w, w = Sm.1 1 0 := ⟨_, rfl⟩
  have hs : Sm = sw Sm w := by rw [hw, sw_s]
  rw [← hw] at hB
  have hW := hB.2.2.1
  have m0 : MK Sm (uI Sm 0 0 0 0) := MK.rfl.f (by omega)
  have hI := inv_same hR hB hc m0
  show FW_root a1 Sc o (fun r1 S2 o3 => F_X12_root a1 Sm (tl n r1 S2 o3))
  unfold FW_root F_X11_root
  have bad : (¬ ∃ y, y ≤ 6 ∧ a1 = nI y) → F_X12_root a1 Sm (tl n 1 Sc o) := by
    intro hno
    rw [hs, F_X12_root]
    rintro S1 rfl
    rw [sw_c (by omega), m_in, show (6 : Int32) = nI 6 from rfl, bfalse (rng_in (by omega)) hno]
    refine ⟨fun q => absurd rfl q, fun _ => ?_⟩
    rw [B_X12_root_21, m_throws1, sw_c (by omega)]
    exact ⟨fun q => absurd q (by decide), fun _ => tl_ex uI_at (by decide) (inv_same hR hB hc (m0.f (by omega)))⟩
  rw [B_X11_root_10, hR.2.1]
  refine ⟨fun c => ⟨fun _ => bad ?_, fun q => absurd rfl q⟩, fun c => ⟨fun c2 => ?_, fun c2 => ⟨fun _ => bad ?_, fun q => absurd rfl q⟩⟩⟩
  · rintro ⟨y, y1, y2⟩; rw [y2] at c; exact nI_pos (by omega) c
  · obtain ⟨y, y1, y2⟩ := nI_of2 (M := 6) (n := 6) rfl c c2
    rw [y2]
    refine (x_setAside hB).mpr (Or.inl ⟨by omega, ?_⟩)
    show F_X12_root (nI y) Sm (tl n 0 Sc _)
    rw [hs, F_X12_root]
    rintro S1 rfl
    rw [sw_c (by omega), m_in, show (6 : Int32) = nI 6 from rfl, (rng_in (by omega)).mpr ⟨y, y1, rfl⟩]
    refine ⟨fun _ => ?_, fun q => absurd q (by decide)⟩
    rw [B_X12_root_21, m_throws0]
    refine ⟨fun _ => ?_, fun q => absurd rfl q⟩
    rw [m_root34 hW]
    exact tl_ok uI_at hI rfl
  · rintro ⟨y, y1, y2⟩; rw [y2] at c2; exact c2 (nI_le (b := 6) y1 (by omega))
end CS
end PU32
