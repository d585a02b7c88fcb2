section PU61
/-! CALL work: the class goes on -/
section CS
variable {Sc Sc' Sm S S' : sSt} {w : Wd} {d : Nat → Nat → Nat} {I : Nat → Bool} {β : Nat → Nat} {t j l sp n ns np cm nl mo u : Nat} {π : List Nat}
theorem x_isGroupReady (hlen : π.length ≤ 24) (hC : WC S t π d I mo) (hR : WR S t π d β u) (hb : btm β u) (hI : ∀ j, β j ≠ 0 → I j = true) (hd : ∀ j, I j = true → d 2 j < 6) (h3 : ∀ i, i < π.length → d 3 (pl π i) < 1000000) (h4 : ∀ g, g < 6 → d 4 g ≤ 4) {i0 : Nat} (hi0 : i0 < π.length) (hI0 : I (pl π i0) = true) {k : Int32 → sSt → Prop} : F_X10_isGroupReady t (S.2 14 t i0) S k ↔ k (b2i (!((List.range' 0 π.length).any (fun x => decide (β (pl π x) = 1) && decide (d 2 (pl π x) = d 2 (pl π i0)) && decide (d 3 (pl π x) < d 3 (pl π i0)))) && decide ((List.range' 0 π.length).countP (fun x => decide (d 2 (pl π x) = d 2 (pl π i0)) && atw d β u (pl π x)) < d 4 (d 2 (pl π i0))))) S := by
  obtain ⟨c6, -, c17, ci⟩ := hC
  obtain ⟨q6, qI⟩ := ci i0 hi0
  obtain ⟨q7, -, -⟩ := qI hI0
  have hg6 := hd _ hI0
  rw [F_X10_isGroupReady]
  suffices hl : ∀ r i c m, i + r = π.length → r < m → c + r ≤ 24 → (B_X10_isGroupReady_4 m t (S.2 14 t i0) (nI c) (nI i) S k ↔ k (b2i (!((List.range' i r).any (fun x => decide (β (pl π x) = 1) && decide (d 2 (pl π x) = d 2 (pl π i0)) && decide (d 3 (pl π x) < d 3 (pl π i0)))) && decide (c + (List.range' i r).countP (fun x => decide (d 2 (pl π x) = d 2 (pl π i0)) && atw d β u (pl π x)) < d 4 (d 2 (pl π i0))))) S) by
    have := hl π.length 0 0 fuel (by omega) (fuel_gt (by omega)) (by omega)
    rw [Nat.zero_add] at this
    exact this
  intro r
  induction r with
  | zero =>
    intro i c m hi hm hc
    obtain ⟨m, rfl⟩ : ∃ z, m = z + 1 := ⟨m - 1, by omega⟩
    have e : i = π.length := by omega
    subst e
    have h4g := h4 _ hg6
    simp only [B_X10_isGroupReady_4_s, Bb_X10_isGroupReady_4, c6, q7, nI_leI (show π.length < 2147483648 by omega) (show π.length < 2147483648 by omega), Nat.le_refl, true_implies, not_true_eq_false, false_implies, and_true]
    rw [ix_n (by omega) (by omega), c17 _ hg6, nI_leI (by omega) (by omega)]
    by_cases c1 : d 4 (d 2 (pl π i0)) ≤ c
    · simp [c1, b2i, show ¬ c < d 4 (d 2 (pl π i0)) by omega]
    · simp [c1, b2i, show c < d 4 (d 2 (pl π i0)) by omega]
  | succ r ih =>
    intro i c m hi hm hc
    obtain ⟨m, rfl⟩ : ∃ z, m = z + 1 := ⟨m - 1, by omega⟩
    have hil : i < π.length := by omega
    have hlt : ¬ nI π.length ≤ nI i := nI_ge hil (by omega)
    obtain ⟨p6, pI⟩ := ci i hil
    obtain ⟨r0, r1, r2⟩ := hR i hil
    have nx := ih (i + 1) c m (by omega) (by omega) (by omega)
    have nx1 := ih (i + 1) (c + 1) m (by omega) (by omega) (by omega)
    simp only [B_X10_isGroupReady_4_s, Bb_X10_isGroupReady_4, B_X10_isGroupReady_57, B_X10_isGroupReady_75, B_X10_isGroupReady_77, c6, q7, q6, hlt, false_implies, true_and, not_false_eq_true, true_implies, forall_eq, nI_1, Int32.add_zero]
    rw [ix_n (by omega) (by omega), p6, List.range'_succ, List.any_cons, List.countP_cons]
    have n1 := h3 i hil
    have n2 := h3 i0 hi0
    rw [nI_leI (by omega) (by omega)]
    rcases bv_c (β (pl π i)) with z | z | ⟨y, z⟩
    · have ea : atw d β u (pl π i) = false := by unfold atw; rw [z]; rfl
      have s := r0 z
      rw [ea]
      simp only [s.1, s.2, z, not_false_eq_true, true_implies, false_implies, and_true, nx]
      by_cases a : S.1 21 (S.2 14 t i) 7 = nI (d 2 (pl π i0)) <;> by_cases b : d 3 (pl π i0) ≤ d 3 (pl π i) <;> simp [a, b]
    · have ea : atw d β u (pl π i) = false := by unfold atw; rw [z]; rfl
      have s := r1 z
      have hIi := hI (pl π i) (by omega)
      have hgi := hd _ hIi
      rw [(pI hIi).1, nI_eq (by omega) (by omega), ea, s]
      simp only [show ¬ (0 : Int32) = 1 from by decide, not_false_eq_true, true_implies, false_implies, and_true, not_true_eq_false, true_and, nx]
      by_cases a : d 2 (pl π i) = d 2 (pl π i0)
      · by_cases b : d 3 (pl π i0) ≤ d 3 (pl π i)
        · simp [a, b, z, show ¬ d 3 (pl π i) < d 3 (pl π i0) by omega]
        · simp [a, b, z, show d 3 (pl π i) < d 3 (pl π i0) by omega, b2i]
      · simp [a]
    · have hIi := hI (pl π i) (by omega)
      have hgi := hd _ hIi
      have hbi := hb (pl π i) (by omega)
      have s2 := r2 (by omega)
      rw [(pI hIi).1, nI_eq (by omega) (by omega)]
      have z1 : ¬ β (pl π i) = 1 := by omega
      rcases Nat.lt_or_ge u (β (pl π i) - 2 + d 0 (pl π i)) with x | x
      · have ea : atw d β u (pl π i) = true := by unfold atw; simp [hbi, x, show 2 ≤ β (pl π i) by omega]
        rw [ea, (s2.1 x).1]
        simp only [show ¬ (1 : Int32) = 0 from by decide, not_false_eq_true, true_implies, false_implies, and_true, not_true_eq_false, true_and, nx, nx1]
        by_cases a : d 2 (pl π i) = d 2 (pl π i0)
        · simp only [a, z1, decide_true, decide_false, Bool.and_true, Bool.false_and, Bool.false_or, if_true, not_true_eq_false, false_implies, true_implies, true_and]
          rw [show ∀ Q, c + 1 + Q = c + (Q + 1) from fun Q => by omega]
          by_cases b : d 3 (pl π i0) ≤ d 3 (pl π i) <;> simp [b]
        · simp [a]
      · have ea : atw d β u (pl π i) = false := by unfold atw; simp [show ¬ u < β (pl π i) - 2 + d 0 (pl π i) by omega]
        rw [ea, s2.2 x]
        simp only [show ¬ (2 : Int32) = 0 from by decide, show ¬ (2 : Int32) = 1 from by decide, not_false_eq_true, true_implies, false_implies, and_true, nx]
        by_cases a : d 2 (pl π i) = d 2 (pl π i0) <;> by_cases b : d 3 (pl π i0) ≤ d 3 (pl π i) <;> simp [a, b, z1]
/-- the first that is ready is the model's next -/
theorem x_firstReady (hO : zOrd w π) (hN : ∀ j, j < 24 → lie w j = true → num w j = nI (d 3 j) ∧ d 3 j < 1000000) (hC : WC S t π d I mo) (hR : WR S t π d β u) (hu : u < 1000000) (hb : btm β u) (hI : ∀ j, j < 24 → β j ≠ 0 → I j = true) (hβ : ∀ j, 24 ≤ j → β j = 0) (hIl : ∀ j, j < 24 → I j = true → lie w j = true) (hd : ∀ j, I j = true → d 2 j < 6 ∧ d 1 j ≤ 10107) (h4 : ∀ g, g < 6 → d 4 g ≤ 4) {k : Option Nat → sSt → Prop} (h0 : nxb d β u = none → k none S) (h1 : ∀ i, i < π.length → nxb d β u = some (pl π i) → k (some (S.2 14 t i)) S) : F_X10_firstReady t (nI u) S k := by
  have hlen := hO.len
  have hI' : ∀ j, β j ≠ 0 → I j = true := fun j q => by
    rcases Nat.lt_or_ge j 24 with c | c
    · exact hI j c q
    · exact absurd (hβ j c) q
  have h3 : ∀ i, i < π.length → d 3 (pl π i) < 1000000 := fun i hi => (hN _ (hO.at hi) (hO.la hi)).2
  have srt : ∀ i i', i < i' → i' < π.length → d 3 (pl π i) < d 3 (pl π i') := fun i i' a b => by
    have := hO.sorted a b
    rw [(hN _ (hO.at (show i < π.length by omega)) (hO.la (show i < π.length by omega))).1, (hN _ (hO.at b) (hO.la b)).1, nI_ltI (by have := h3 i (by omega); omega) (by have := h3 i' b; omega)] at this
    exact this
  have rdy : ∀ i, i < π.length → β (pl π i) = 1 → ∀ kk : Int32 → sSt → Prop, (F_X10_isGroupReady t (S.2 14 t i) S kk ↔ kk (b2i (!lsw d β (pl π i) && decide (grk d β u (d 2 (pl π i)) < d 4 (d 2 (pl π i))))) S) := by
    intro i hi h1' kk
    rw [x_isGroupReady hlen hC hR hb hI' (fun j q => (hd j q).1) h3 h4 hi (hI' _ (by omega))]
    have ea : (List.range' 0 π.length).any (fun x => decide (β (pl π x) = 1) && decide (d 2 (pl π x) = d 2 (pl π i)) && decide (d 3 (pl π x) < d 3 (pl π i))) = lsw d β (pl π i) := by
      rw [any_pl π (fun o => decide (β o = 1) && decide (d 2 o = d 2 (pl π i)) && decide (d 3 o < d 3 (pl π i))), hO.any]
      unfold lsw
      rw [Bool.eq_iff_iff, List.any_eq_true, List.any_eq_true]
      constructor
      · rintro ⟨x, x1, x2⟩
        rw [Bool.and_eq_true] at x2
        exact ⟨x, x1, x2.2⟩
      · rintro ⟨x, x1, x2⟩
        refine ⟨x, x1, ?_⟩
        have x2' := x2
        simp only [Bool.and_eq_true, decide_eq_true_eq] at x2'
        rw [List.mem_range'_1] at x1
        rw [hIl x (by omega) (hI x (by omega) (by omega)), Bool.true_and]
        exact x2
    have ec : (List.range' 0 π.length).countP (fun x => decide (d 2 (pl π x) = d 2 (pl π i)) && atw d β u (pl π x)) = grk d β u (d 2 (pl π i)) := by
      rw [cnt_pl π (fun o => decide (d 2 o = d 2 (pl π i)) && atw d β u o), hO.cnt]
      unfold grk
      refine List.countP_congr (fun x x1 => ?_)
      rw [List.mem_range'_1] at x1
      cases q : atw d β u x
      · simp
      · have : 2 ≤ β x := by
          unfold atw at q
          simp only [Bool.and_eq_true, decide_eq_true_eq] at q
          exact q.1.1
        rw [hIl x (by omega) (hI x (by omega) (by omega))]
        simp
    rw [ea, ec]
  -- the model's choice is the first place that is ready
  have one : ∀ o : Option Nat, Bst (mbg d β u) (fun a b => decide (d 3 a < d 3 b)) o 24 → nxb d β u = o := by
    intro o ho
    have hB : Bst (mbg d β u) (fun a b => decide (d 3 a < d 3 b)) (nxb d β u) 24 := by
      refine bst_Bst (n := 24) (fun a b c _ _ _ _ _ _ x y => ?_) (fun a b ha hb pa pb hne => ?_) 24 0 none (by omega) (fun j hj => absurd hj (Nat.not_lt_zero j))
      · rw [decide_eq_true_eq] at x y ⊢; omega
      · have la := hIl a ha (hI a ha (by rw [mbg_1 pa]; omega))
        have lb := hIl b hb (hI b hb (by rw [mbg_1 pb]; omega))
        obtain ⟨x, x1, x2⟩ := hO.pos ha la
        obtain ⟨y, y1, y2⟩ := hO.pos hb lb
        simp only [decide_eq_true_eq]
        rcases Nat.lt_trichotomy x y with q | q | q
        · have := srt x y q y1; rw [x2, y2] at this; exact Or.inl this
        · exact absurd (by rw [← x2, ← y2, q]) hne
        · have := srt y x q x1; rw [x2, y2] at this; exact Or.inr this
    exact Bst.one (fun a b _ _ _ _ x y => by rw [decide_eq_true_eq] at x y; omega) hB ho
  rw [F_X10_firstReady]
  suffices hl : ∀ r i m, i + r = π.length → r < m → (∀ x, x < i → mbg d β u (pl π x) = false) → B_X10_firstReady_2 m t (nI u) (nI i) S k from
    hl π.length 0 fuel (by omega) (fuel_gt (by omega)) (fun x hx => absurd hx (Nat.not_lt_zero x))
  obtain ⟨c6, -, -, ci⟩ := id hC
  intro r
  induction r with
  | zero =>
    intro i m hi hm hx
    obtain ⟨m, rfl⟩ : ∃ z, m = z + 1 := ⟨m - 1, by omega⟩
    have e : i = π.length := by omega
    subst e
    simp only [B_X10_firstReady_2_s, Bb_X10_firstReady_2, c6, nI_leI (show π.length < 2147483648 by omega) (show π.length < 2147483648 by omega), Nat.le_refl, true_implies, not_true_eq_false, false_implies, and_true]
    refine h0 (one none (fun j hj => ?_))
    cases q : mbg d β u j
    · rfl
    · obtain ⟨x, x1, x2⟩ := hO.pos hj (hIl j hj (hI j hj (by rw [mbg_1 q]; omega)))
      have := hx x x1
      rw [x2, q] at this; exact absurd this (by decide)
  | succ r ih =>
    intro i m hi hm hx
    obtain ⟨m, rfl⟩ : ∃ z, m = z + 1 := ⟨m - 1, by omega⟩
    have hil : i < π.length := by omega
    have hlt : ¬ nI π.length ≤ nI i := nI_ge hil (by omega)
    obtain ⟨r0, r1, r2⟩ := hR i hil
    have next : mbg d β u (pl π i) = false → B_X10_firstReady_2 m t (nI u) (nI (i + 1)) S k := fun q => ih (i + 1) m (by omega) (by omega) (fun x hx' => by
      by_cases e : x = i
      · rw [e]; exact q
      · exact hx x (by omega))
    simp only [B_X10_firstReady_2_s, Bb_X10_firstReady_2, B_X10_firstReady_48, c6, hlt, false_implies, true_and, not_false_eq_true, true_implies, forall_eq, nI_1]
    rw [ix_n (by omega) (by omega)]
    refine ⟨fun c => next ?_, fun c => ?_⟩
    · unfold mbg
      have : ¬ β (pl π i) = 1 := fun q => c (r1 q)
      simp [this]
    · have z1 : β (pl π i) = 1 := by
        rcases bv_c (β (pl π i)) with z | z | ⟨y, z⟩
        · exact absurd c (r0 z).1
        · exact z
        · have s2 := r2 (by omega)
          rcases Nat.lt_or_ge u (β (pl π i) - 2 + d 0 (pl π i)) with x | x
          · rw [(s2.1 x).1] at c; exact absurd c (by decide)
          · rw [s2.2 x] at c; exact absurd c (by decide)
      have hIi := hI' (pl π i) (by omega)
      rw [((ci i hil).2 hIi).2.2, nI_ltI (by omega) (by have := (hd _ hIi).2; omega)]
      refine ⟨fun c2 => next ?_, fun c2 => ?_⟩
      · unfold mbg
        simp [show ¬ d 1 (pl π i) ≤ u by omega]
      · rw [rdy i hil z1]
        have em : mbg d β u (pl π i) = (!lsw d β (pl π i) && decide (grk d β u (d 2 (pl π i)) < d 4 (d 2 (pl π i)))) := by
          unfold mbg
          simp [z1, show d 1 (pl π i) ≤ u by omega]
        rw [← em]
        simp only [b2i_0, Bool.not_eq_false]
        refine ⟨next, fun q => h1 i hil (one _ ⟨hO.at hil, q, fun j hj hq hne => ?_⟩)⟩
        obtain ⟨x, x1, x2⟩ := hO.pos hj (hIl j hj (hI j hj (by rw [mbg_1 hq]; omega)))
        rw [decide_eq_true_eq, ← x2]
        rcases Nat.lt_trichotomy x i with z | z | z
        · have := hx x z; rw [x2, hq] at this; exact absurd this (by decide)
        · exact absurd (by rw [← x2, z]) hne
        · exact srt i x z x1
theorem wrk_up (h1 : β j = 1) (hj : j < 24) (h0 : 1 ≤ d 0 j) : wrk d (bup β j u) u = wrk d β u + 1 := by
  symm
  refine cnt_one (j := j) (N := 24) (P := atw d (bup β j u) u) (P' := atw d β u) ?_ ?_ (fun i hi hne => ?_) 24 0 (by omega) (by omega) (by omega)
  · unfold atw bup; simp; omega
  · unfold atw; rw [h1]; rfl
  · unfold atw bup; rw [if_neg hne]
/-- what stays so in all of the call work -/
def WX (w : Wd) (d : Nat → Nat → Nat) (I : Nat → Bool) (π : List Nat) (h : Nat) : Prop := zOrd w π ∧ WDF w d I ∧ d 5 0 = h ∧ h ≤ 4 ∧ ∀ j, 24 ≤ j → I j = false
theorem ar1 (a b : Int32) : a - b + (-1) = a - (b + 1) := by
  rw [Int32.sub_eq_add_neg, Int32.sub_eq_add_neg, Int32.neg_add, Int32.add_assoc, ← Int32.sub_eq_add_neg (-b) 1]
theorem fre {a b : Nat} (ha : a < 100) (hb : b < 100) : nI a - nI b ≤ 0 ↔ a ≤ b := by
  rw [Int32.le_iff_toInt_le, pk_sub_toInt (by omega) (by omega), show (0 : Int32).toInt = 0 from rfl]
  omega
theorem wrk_le : wrk d β u ≤ 24 := by
  have := List.countP_le_length (p := atw d β u) (l := List.range' 0 24)
  rw [List.length_range'] at this
  exact this
theorem x_begins {h : Nat} (X : WX w d I π h) (hu : u < 1000000) {a2 st : Int32} {j0 : Nat} (hj0 : a2 ≠ -1 → ∀ j, j < 24 → lie w j = true → (num w j = a2 ↔ j = j0)) (hm1 : ∀ j, j < 24 → lie w j = true → num w j ≠ -1) {k : Int32 → sSt → Prop} {kk12 : Nat → Int32 → Int32 → Int32 → Int32 → sSt → Prop} : ∀ r m (S : sSt) (β : Nat → Nat) (l : Nat), wtg β ≤ r → r < m → l ≤ 2000000 → zRef S t → WC S t π d I mo → WR S t π d β u → btm β u → (∀ j, β j ≠ 0 → I j = true) → (a2 ≠ -1 → β j0 ≤ 1) → (∀ S', WK t π S S' → a2 ≠ -1 → (bgn d u r β l).1 j0 = u + 2 → k (nI u) S') → (∀ S', WK t π S S' → WR S' t π d (bgn d u r β l).1 u → btm (bgn d u r β l).1 u → (∀ j, (bgn d u r β l).1 j ≠ 0 → I j = true) → (bgn d u r β l).2 ≤ 2000000 → (a2 ≠ -1 → (bgn d u r β l).1 j0 ≤ 1) → B_X10_timeOf_128 kk12 t (nI h) a2 (nI (bgn d u r β l).2) st S' k) → B_X10_timeOf_51 kk12 m t (nI h) a2 (nI l) st (nI u) (nI h - nI (wrk d β u)) S k := by
  obtain ⟨hO, hD, h5, hh4, hfar⟩ := X
  have hlen := hO.len
  intro r
  induction r with
  | zero =>
    intro m S β l hw hm hl hr hC hR hb hI hz he hk
    obtain ⟨m, rfl⟩ : ∃ z, m = z + 1 := ⟨m - 1, by omega⟩
    have hc := hk S WK.rfl hR hb hI hl hz
    simp only [B_X10_timeOf_51_s, Bb_X10_timeOf_51]
    refine ⟨fun _ => hc, fun _ => ?_⟩
    refine x_firstReady hO hD.1.1 hC hR hu hb (fun j _ => hI j) (fun j hj => Classical.byContradiction fun q => by have := hI j q; rw [hfar j hj] at this; exact absurd this (by decide)) (fun j hj q => (hD.2 j hj q).1) (fun j q => ?_) (fun g hg => (hD.1.2 g hg).2.2) (fun _ => opt_n.mpr hc) (fun i hi q => ?_)
    · rcases Nat.lt_or_ge j 24 with c | c
      · exact ⟨(hD.2 j c q).2.2.2.2.2.1, (hD.2 j c q).2.2.2.2.2.2.1⟩
      · rw [hfar j c] at q; exact absurd q (by decide)
    · rw [nxb_0 (wtg_0 (Nat.le_zero.mp hw))] at q; cases q
  | succ r ih =>
    intro m S β l hw hm hl hr hC hR hb hI hz he hk
    obtain ⟨m, rfl⟩ : ∃ z, m = z + 1 := ⟨m - 1, by omega⟩
    have hwl : wrk d β u ≤ 24 := wrk_le
    rw [bgn] at hk he
    simp only [B_X10_timeOf_51_s, Bb_X10_timeOf_51]
    rw [fre (by omega) (by omega)]
    refine ⟨fun c => ?_, fun c => ?_⟩
    · cases q : nxb d β u with
      | none => rw [q] at hk; exact hk S WK.rfl hR hb hI hl hz
      | some j =>
        rw [q] at hk
        simp only [h5, c, if_true] at hk
        exact hk S WK.rfl hR hb hI hl hz
    · refine x_firstReady hO hD.1.1 hC hR hu hb (fun j _ => hI j) (fun j hj => Classical.byContradiction fun q => by have := hI j q; rw [hfar j hj] at this; exact absurd this (by decide)) (fun j hj q => (hD.2 j hj q).1) (fun j q => ?_) (fun g hg => (hD.1.2 g hg).2.2) (fun q => ?_) (fun i hi q => ?_)
      · rcases Nat.lt_or_ge j 24 with c | c
        · exact ⟨(hD.2 j c q).2.2.2.2.2.1, (hD.2 j c q).2.2.2.2.2.2.1⟩
        · rw [hfar j c] at q; exact absurd q (by decide)
      · rw [q] at hk; exact opt_n.mpr (hk S WK.rfl hR hb hI hl hz)
      · rw [q] at hk he
        simp only [h5, c, if_false] at hk he
        refine opt_s.mpr ?_
        obtain ⟨hmb, hj⟩ := nxb_is q
        have h1 := mbg_1 hmb
        have hIj := hI _ (show β (pl π i) ≠ 0 by omega)
        obtain ⟨hlj, -, h01, h09, -, -, -, -⟩ := hD.2 _ hj hIj
        have hnj := hD.1.1 _ hj hlj
        obtain ⟨c6, c9⟩ := hC.2.2.2 i hi
        rw [c6, ← hnj.1]
        refine ⟨fun hne => ?_, fun heq => ?_⟩
        · have hr24 := hr.1 i (by omega)
          rintro S21 e21 S23 e23
          have k21 : WK t π S S21 := by rw [e21]; exact WK.i hr hlen hi (by omega)
          have r21 : S21.2 = S.2 := k21.2.1
          have k23 : WK t π S21 S23 := by
            have := WK.i (π := π) (f := 7) (v := nI u + S21.1 21 (S.2 14 t i) 9) (hr.k r21) hlen hi (by omega)
            rw [r21] at this
            rw [e23]; exact this
          have kk := k21.tr k23
          have c9' : S21.1 21 (S.2 14 t i) 9 = nI (d 0 (pl π i)) := by rw [k21.2.2.1 21 (by omega)]; exact (c9 hIj).2.1
          rw [c9', nI_add] at e23
          have s7 : S23.1 22 (6 * S.2 14 t i) 7 = nI (u + d 0 (pl π i)) := by rw [e23, uI_at]
          have s0 : S23.1 22 (6 * S.2 14 t i) 0 = 1 := by rw [e23, uI_nc (by omega), e21, uI_at]
          have so : ∀ y, y < π.length → y ≠ i → S23.1 22 (6 * S.2 14 t y) = S.1 22 (6 * S.2 14 t y) := fun y hy hne' => by
            have := q_ne hr hlen hi hy hne'
            rw [e23, uI_other (by omega), e21, uI_other (by omega)]
          have eM : (if nI l < nI (u + d 0 (pl π i)) then nI (u + d 0 (pl π i)) else nI l) = nI (max l (u + d 0 (pl π i))) := by
            by_cases z : l < u + d 0 (pl π i)
            · rw [if_pos (nI_lt z (by omega))]; congr 1; omega
            · rw [if_neg (nI_nlt (by omega) (by omega))]; congr 1; omega
          rw [s7, eM]
          rintro x25 rfl x26 rfl
          rw [ar1, nI_1, ← wrk_up h1 hj h01]
          have hne0 : a2 ≠ -1 → pl π i ≠ j0 := fun z z2 => hne ((hj0 z _ hj hlj).mpr z2)
          refine ih m S23 (bup β (pl π i) u) _ ?_ (by omega) (by omega) (hr.k kk.2.1) (hC.k kk) (fun y hy => ?_) (fun x hx => ?_) (fun x hx => ?_) (fun z => ?_) (fun S' g => he S' (kk.tr g)) (fun S' g => hk S' (kk.tr g))
          · have := wtg_up (t := u) hj h1; omega
          · rw [kk.2.1]
            by_cases e : y = i
            · rw [e, s0, s7]
              unfold bup
              rw [if_pos rfl]
              exact ⟨fun z => absurd z (by omega), fun z => absurd z (by omega), fun _ => ⟨fun _ => ⟨rfl, rfl⟩, fun z => absurd z (by omega)⟩⟩
            · rw [so y hy e]
              unfold bup
              rw [if_neg (fun z => e (hO.inj hy hi z))]
              exact hR y hy
          · unfold bup at hx ⊢
            split
            · omega
            · rename_i z; rw [if_neg z] at hx; exact hb x hx
          · unfold bup at hx
            by_cases e : x = pl π i
            · rw [e]; exact hIj
            · rw [if_neg e] at hx; exact hI x hx
          · unfold bup
            rw [if_neg (fun e => hne0 z e.symm)]
            exact hz z
        · have h2 : a2 ≠ -1 := fun z => hm1 _ hj hlj (by rw [heq, z])
          have e0 := (hj0 h2 _ hj hlj).mp heq
          refine he S WK.rfl h2 ?_
          rw [bgn_keep]
          · unfold bup; rw [if_pos e0.symm]
          · unfold bup; rw [if_pos e0.symm]; omega
theorem x_steps {h : Nat} (X : WX w d I π h) {a2 : Int32} {j0 : Nat} (hj0 : a2 ≠ -1 → ∀ j, j < 24 → lie w j = true → (num w j = a2 ↔ j = j0)) (hj24 : j0 < 24) (hm1 : ∀ j, j < 24 → lie w j = true → num w j ≠ -1) (hmo : mo ≤ 9999) (hd0 : ∀ j, j < 24 → d 0 j ≤ 9) {k : Int32 → sSt → Prop} : ∀ r s m (S : sSt) (β : Nat → Nat) (l u : Nat), s + r = 100000 → r < m → l ≤ 2000000 → u ≤ mo + s → zRef S t → WC S t π d I mo → WR S t π d β u → btm β u → (∀ j, β j ≠ 0 → I j = true) → (a2 ≠ -1 → β j0 ≤ 1) → (∀ j, j < 24 → (sim d r (mo + s) β l).1 j ≠ 1) → (∀ S', KP t S S' → S'.2 = S.2 → k (if a2 = -1 then nI (sim d r (mo + s) β l).2 else bv ((sim d r (mo + s) β l).1 j0)) S') → B_X10_timeOf_12 m t (nI h) a2 (nI l) (nI s) S k := by
  obtain ⟨hO, hD, h5, hh4, hfar⟩ := id X
  have hlen := hO.len
  have fin : ∀ (S : sSt) (β : Nat → Nat) (l : Nat), (a2 ≠ -1 → β j0 ≤ 1) → (∀ j, j < 24 → β j ≠ 1) → k (if a2 = -1 then nI l else bv (β j0)) S → B_X10_timeOf_134 a2 (nI l) S k := by
    intro S β l hz hno hk
    rw [B_X10_timeOf_134]
    refine ⟨fun c => ?_, fun c => by rw [if_pos c] at hk; exact hk⟩
    have h1 := hz c
    have h2 := hno j0 hj24
    rw [if_neg c, show β j0 = 0 by omega, bv_0] at hk
    exact hk
  intro r
  induction r with
  | zero =>
    intro s m S β l u hs hm hl hu hr hC hR hb hI hz hlv hk
    obtain ⟨m, rfl⟩ : ∃ z, m = z + 1 := ⟨m - 1, by omega⟩
    have e : s = 100000 := by omega
    subst e
    simp only [B_X10_timeOf_12_s, Bb_X10_timeOf_12]
    exact ⟨fun _ => fin S β l hz hlv (hk S KP.rfl rfl), fun q => absurd (show (100000 : Int32) ≤ nI 100000 from by decide) q⟩
  | succ r ih =>
    intro s m S β l u hs hm hl hu hr hC hR hb hI hz hlv hk
    obtain ⟨m, rfl⟩ : ∃ z, m = z + 1 := ⟨m - 1, by omega⟩
    have hβl : ∀ j, j < 24 → β j ≠ 0 → lie w j = true := fun j hj q => (hD.2 j hj (hI j q)).1
    have hwt : wtg β ≤ 24 := wtg_le
    simp only [B_X10_timeOf_12_s, Bb_X10_timeOf_12]
    refine ⟨fun q => absurd q (nI_ge (b := 100000) (by omega) (by omega)), fun _ => ?_⟩
    rw [x_wait hC hR hO hβl, show (0 : Int32) = nI 0 from rfl, nI_leI (by omega) (by omega)]
    refine ⟨fun c => ?_, fun c => ?_⟩
    · have hno := wtg_0 (Nat.le_zero.mp c)
      rw [sim_no hno] at hk
      exact fin S β l hz hno (hk S KP.rfl rfl)
    · rw [hC.2.1, nI_add]
      rintro x9 rfl
      have hβb : ∀ i, i < π.length → β (pl π i) - 2 + d 0 (pl π i) < 2000000 := fun i hi => by
        have := hd0 _ (hO.at hi)
        have hbi := hb (pl π i)
        omega
      refine x_endDone hr hlen hC hR hu (by omega) hβb (fun S1 hR1 k1 => ?_)
      have hC1 := hC.k k1
      have hr1 : zRef S1 t := hr.k k1.2.1
      have hb1 : btm β (mo + s) := fun j hj => by have := hb j hj; omega
      rw [x_held hC1 hR1 hb1 hO hβl]
      rintro x14 rfl
      rw [sim] at hk hlv
      refine x_begins X (by omega) hj0 hm1 24 fuel S1 β l wtg_le (fuel_gt (by omega)) hl hr1 hC1 hR1 hb1 hI hz (fun S2 k2 h2 e2 => ?_) (fun S2 k2 hR2 hb2 hI2 hl2 hz2 => ?_)
      · have := hk S2 (k1.tr k2).1 (k1.tr k2).2.1
        rw [if_neg h2, sim_keep _ _ (by rw [e2]; omega), e2, bv_2] at this
        exact this
      · rw [B_X10_timeOf_128, forall_eq, nI_1]
        have kk := k1.tr k2
        exact ih (s + 1) m S2 _ _ (mo + s) (by omega) (by omega) hl2 (by omega) (hr.k kk.2.1) (hC.k kk) hR2 hb2 hI2 hz2 hlv (fun S' g1 g2 => hk S' (kk.1.tr g1) (g2.trans kk.2.1))
end CS
end PU61
