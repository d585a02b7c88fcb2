section PU67
/-! READING a query: the terms and the keys one after the other -/
def ND (S S' : sSt) : Prop := (∀ a b, ¬ (a = 1 ∧ b = 0) → ¬ (3 ≤ a ∧ a ≤ 8 ∧ b = 0) → S'.1 a b = S.1 a b) ∧ (∀ f, f ≠ 3 → f ≠ 4 → S'.1 1 0 f = S.1 1 0 f) ∧ S'.2 = S.2
def NMd (S S' : sSt) : Prop := (∀ a b, ¬ (a = 0 ∧ b = 0) → ¬ (a = 5 ∧ b = 0) → S'.1 a b = S.1 a b) ∧ ∀ f, f ≠ 10 → f ≠ 12 → S'.1 0 0 f = S.1 0 0 f
section PL
variable {S S' S1 : sSt} {T : Nat → Int32} {L x y p b : Nat} {wr : Int32}
theorem ND.rfl : ND S S := ⟨fun _ _ _ _ => Eq.refl _, fun _ _ _ => Eq.refl _, Eq.refl _⟩
theorem ND.tr (h : ND S S1) (g : ND S1 S') : ND S S' := ⟨fun a b q1 q2 => (g.1 a b q1 q2).trans (h.1 a b q1 q2), fun f q1 q2 => (g.2.1 f q1 q2).trans (h.2.1 f q1 q2), g.2.2.trans h.2.2⟩
theorem NC.d (h : NC S S') : ND S S' := ⟨fun a b q _ => h.1 a b q, h.2.1, h.2.2⟩
theorem ND.i {a j : Nat} {v : Int32} (h : 3 ≤ a ∧ a ≤ 8) : ND S (uI S a 0 j v) := ⟨fun c b _ q2 => uI_other (by omega), fun f _ _ => by rw [uI_other (by omega)], Eq.refl _⟩
theorem NMd.rfl : NMd S S := ⟨fun _ _ _ _ => Eq.refl _, fun _ _ _ => Eq.refl _⟩
theorem NMd.tr (h : NMd S S1) (g : NMd S1 S') : NMd S S' := ⟨fun a b q1 q2 => (g.1 a b q1 q2).trans (h.1 a b q1 q2), fun f q1 q2 => (g.2 f q1 q2).trans (h.2 f q1 q2)⟩
theorem NM.d (h : NM S S') : NMd S S' := ⟨fun a b q _ => h.1 a b q, h.2⟩
theorem NMd.i {j : Nat} {v : Int32} : NMd S (uI S 5 0 j v) := ⟨fun c b _ q2 => uI_other (by omega), fun f _ _ => by rw [uI_other (by omega)]⟩
theorem RC.i {a j : Nat} {v : Int32} (h : RC S T L p wr) (ha : 3 ≤ a) : RC (uI S a 0 j v) T L p wr := ⟨by rw [uI_other (by omega)]; exact h.1, by rw [uI_other (by omega)]; exact h.2.1, by rw [uI_other (by omega)]; exact h.2.2.1, fun z hz => by rw [uI_other (by omega)]; exact h.2.2.2 z hz⟩
theorem RM.i {j : Nat} {v : Int32} (h : RM S T L x) : RM (uI S 5 0 j v) T L x := ⟨by rw [uI_other (by omega)]; exact h.1, by rw [uI_other (by omega)]; exact h.2.1, fun z hz => by rw [uI_other (by omega)]; exact h.2.2 z hz⟩
theorem RC.ne (h : RC S T L p (nI y)) (hy : y ≤ L) (hL : L ≤ 400) : S.1 1 0 4 ≠ -1 := by rw [h.2.2.1]; exact ni_m1 (by omega)
def tget (l : List (Nat × Nat × Nat)) (m : Nat) : Nat × Nat × Nat := l.getD m (0, 0, 0)
def kget (l : List (Nat × Nat)) (m : Nat) : Nat × Nat := l.getD m (0, 0)
theorem tget_s {a : Nat × Nat × Nat} {l : List (Nat × Nat × Nat)} {m : Nat} : tget (a :: l) (m + 1) = tget l m := Eq.refl _
theorem kget_s {a : Nat × Nat} {l : List (Nat × Nat)} {m : Nat} : kget (a :: l) (m + 1) = kget l m := Eq.refl _
theorem sgx_char (c : Nat) : vp_nar .char (sgx c) = sgx c := by
  unfold sgx
  rw [vp_nar_char]
  split
  · decide
  · split
    · decide
    · split <;> decide
theorem x_terms (hT : byt T) (hL : L ≤ 400) {k : sSt → Prop} : ∀ r c x m (S : sSt), c + r = 4 → r < m → x ≤ L → RC S T L (bl T L x) (-1) → (∀ l y, pts T L r x = (some l, y) → y ≤ L → ∀ S', ND S S' → RC S' T L (bl T L y) (-1) → (∀ a, 3 ≤ a → a ≤ 8 → ∀ z, (4 ≤ a ∧ a ≤ 6 ∧ z < c) ∨ (a = 3 ∧ z ≠ 6) ∨ 7 ≤ a → S'.1 a 0 z = S.1 a 0 z) → (∀ m, m < l.length → S'.1 4 0 (c + m) = nI (tget l m).1 ∧ S'.1 5 0 (c + m) = sgx (tget l m).2.1 ∧ S'.1 6 0 (c + m) = nI (tget l m).2.2) → S'.1 3 0 6 = nI (c + l.length) → k S') → (∀ y, pts T L r x = (none, y) → y ≤ L → ∀ S' p, ND S S' → p ≤ L → RC S' T L p (nI y) → k S') → B_X3_readTerms_2 m 0 (nI c) S k := by
  intro r
  induction r with
  | zero =>
    intro c x m S hc hm hx h h1 h0
    obtain ⟨m, rfl⟩ : ∃ z, m = z + 1 := ⟨m - 1, by omega⟩
    have e : c = 4 := by omega
    subst e
    have b2 := (bl_ok (T := T) hL hx).2.1
    simp only [B_X3_readTerms_2_s, Bb_X3_readTerms_2]
    exact ⟨fun _ => x_refuse h (fun S' n' r' => h0 _ (Eq.refl _) b2 S' _ n'.d b2 r'), fun q => absurd (show (4 : Int32) ≤ nI 4 from by decide) q⟩
  | succ r ih =>
    intro c x m S hc hm hx h h1 h0
    obtain ⟨m, rfl⟩ : ∃ z, m = z + 1 := ⟨m - 1, by omega⟩
    simp only [B_X3_readTerms_2_s, Bb_X3_readTerms_2]
    refine ⟨fun q => absurd q (nI_ge (b := 4) (by omega) (by omega)), fun _ => ?_⟩
    -- after a failure: what is left
    have fin3 : ∀ S12 p y, ND S S12 → p ≤ L → y ≤ L → RC S12 T L p (nI y) → pts T L (r + 1) x = (none, y) → ∀ S16, S16 = uI S12 6 0 c (-1) → ∀ S17, S17 = uI S16 3 0 6 (nI c + 1) → F_X8_takeWord 25 S17 (fun r18 S19 => ((¬ r18 = 0 → ∀ x21 : Int32, x21 = nI c + 1 → B_X3_readTerms_2 m 0 x21 S19 k) ∧ (r18 = 0 → k S19))) := by
      rintro S12 p y n12 hp hy r12 e S16 rfl S17 rfl
      have r17 : RC (uI (uI S12 6 0 c (-1)) 3 0 6 (nI c + 1)) T L p (nI y) := (r12.i (by omega)).i (by omega)
      exact x_takeWord0 (r17.ne hy hL) ⟨fun z => absurd (Eq.refl _) z, fun _ => h0 y e hy _ p (n12.tr ((ND.i (by omega)).tr (ND.i (by omega)))) hp r17⟩
    have fin2 : ∀ S8 p y (g : Int32), ND S S8 → p ≤ L → y ≤ L → RC S8 T L p (nI y) → pts T L (r + 1) x = (none, y) → ∀ S12, S12 = uI S8 5 0 c g → F_X8_number 0 999 S12 (fun r14 S15 => ∀ S16, S16 = uI S15 6 0 c r14 → ∀ S17, S17 = uI S16 3 0 6 (nI c + 1) → F_X8_takeWord 25 S17 (fun r18 S19 => ((¬ r18 = 0 → ∀ x21 : Int32, x21 = nI c + 1 → B_X3_readTerms_2 m 0 x21 S19 k) ∧ (r18 = 0 → k S19)))) := by
      rintro S8 p y g n8 hp hy r8 e S12 rfl
      have r12 : RC (uI S8 5 0 c g) T L p (nI y) := r8.i (by omega)
      exact x_number0 (lo := 0) (hi := 999) hT r12 (ni_m1 (by omega)) hp hL (fin3 _ p y (n8.tr (ND.i (by omega))) hp hy r12 e)
    refine x_col hT h hx hL (fun cc y1 e1 c7 hy1 S6 n6 r6 => ?_) (fun y1 e1 hy1 S6 n6 r6 => ?_)
    · rw [ix_n (by omega) (by omega)]
      rintro S8 rfl
      have r8 : RC (uI S6 4 0 c (nI cc)) T L (bl T L y1) (-1) := r6.i (by omega)
      refine x_sgn hT r8 hy1 hL (fun ss y2 e2 s3 hy2 S11 n11 r11 => ?_) (fun y2 e2 hy2 S11 n11 r11 => ?_)
      · rintro S12 rfl
        rw [sgx_char]
        have r12 : RC (uI S11 5 0 c (sgx ss)) T L (bl T L y2) (-1) := r11.i (by omega)
        refine x_pnum (lo := 0) (hi := 999) hT (by omega) (by omega) r12 hy2 hL (fun v y3 e3 _ v9 hy3 S15 n15 r15 => ?_) (fun y3 e3 hy3 S15 n15 r15 => ?_)
        · rintro S16 rfl S17 rfl
          have et : ptm T L x = (some (cc, ss, v), y3) := by unfold ptm; rw [e1]; simp only []; rw [e2]; simp only []; rw [e3]
          have r17 : RC (uI (uI S15 6 0 c (nI v)) 3 0 6 (nI c + 1)) T L (bl T L y3) (-1) := (r15.i (by omega)).i (by omega)
          have n17 : ND S (uI (uI S15 6 0 c (nI v)) 3 0 6 (nI c + 1)) := n6.d.tr ((ND.i (by omega)).tr (n11.d.tr ((ND.i (by omega)).tr (n15.d.tr ((ND.i (by omega)).tr (ND.i (by omega)))))))
          -- what the cells are then
          have ce : ∀ S18, NC (uI (uI S15 6 0 c (nI v)) 3 0 6 (nI c + 1)) S18 → (∀ a, 3 ≤ a → a ≤ 8 → ∀ z, (4 ≤ a ∧ a ≤ 6 ∧ z < c) ∨ (a = 3 ∧ z ≠ 6) ∨ 7 ≤ a → S18.1 a 0 z = S.1 a 0 z) ∧ (S18.1 4 0 c = nI cc ∧ S18.1 5 0 c = sgx ss ∧ S18.1 6 0 c = nI v) ∧ S18.1 3 0 6 = nI (c + 1) := by
            intro S18 n18
            refine ⟨fun a a3 a8 z hz => ?_, ⟨?_, ?_, ?_⟩, ?_⟩
            · rw [n18.1 a 0 (by omega), uI_nc (by omega), uI_nc (by omega), n15.1 a 0 (by omega), uI_nc (by omega), n11.1 a 0 (by omega), uI_nc (by omega), n6.1 a 0 (by omega)]
            · rw [n18.1 4 0 (by omega), uI_other (by omega), uI_other (by omega), n15.1 4 0 (by omega), uI_other (by omega), n11.1 4 0 (by omega), uI_at]
            · rw [n18.1 5 0 (by omega), uI_other (by omega), uI_other (by omega), n15.1 5 0 (by omega), uI_at]
            · rw [n18.1 6 0 (by omega), uI_other (by omega), uI_at]
            · rw [n18.1 3 0 (by omega), uI_at, nI_1]
          refine x_word hT (by omega) r17 hy3 hL (fun q S18 n18 r18 => ⟨fun _ => ?_, fun z => absurd z (by decide)⟩) (fun q => ⟨fun z => absurd (Eq.refl _) z, fun _ => ?_⟩)
          · rintro x21 rfl
            rw [nI_1]
            obtain ⟨k1, k2, k3⟩ := ce S18 n18
            have hle := el_bl_le (T := T) hL hy3
            refine ih (c + 1) (el T L (bl T L y3)) m S18 (by omega) (by omega) hle r18 (fun l y e hy S' n' r' o' d' c' => ?_) (fun y e hy S' p n' hp r' => ?_)
            · refine h1 ((cc, ss, v) :: l) y (by rw [pts, et]; simp only []; rw [if_pos q, e]) hy S' (n17.tr (n18.d.tr n')) r' (fun a a3 a8 z hz => by rw [o' a a3 a8 z (by omega)]; exact k1 a a3 a8 z hz) (fun mm hmm => ?_) (by rw [c', List.length_cons]; congr 1; omega)
              rcases mm with _ | mm
              · rw [Nat.add_zero, o' 4 (by omega) (by omega) c (by omega), o' 5 (by omega) (by omega) c (by omega), o' 6 (by omega) (by omega) c (by omega)]
                exact k2
              · rw [List.length_cons] at hmm
                rw [tget_s, show c + (mm + 1) = c + 1 + mm from by omega]
                exact d' mm (by omega)
            · exact h0 y (by rw [pts, et]; simp only []; rw [if_pos q, e]) hy S' p (n17.tr (n18.d.tr n')) hp r'
          · obtain ⟨k1, k2, k3⟩ := ce _ NC.rfl
            have hbl := (bl_ok (T := T) hL hy3).2.1
            refine h1 [(cc, ss, v)] (bl T L y3) (by rw [pts, et]; simp only []; rw [if_neg (by rw [q]; decide)]) hbl _ n17 (by rw [bl_bl hL hy3]; exact r17) k1 (fun mm hmm => ?_) k3
            rw [List.length_singleton] at hmm
            rw [show mm = 0 from by omega]
            exact k2
        · exact fin3 S15 y3 y3 (n6.d.tr ((ND.i (by omega)).tr (n11.d.tr ((ND.i (by omega)).tr n15.d)))) hy3 hy3 r15 (by rw [pts]; unfold ptm; rw [e1]; simp only []; rw [e2]; simp only []; rw [e3])
      · exact fin2 S11 y2 y2 _ (n6.d.tr ((ND.i (by omega)).tr n11.d)) hy2 hy2 r11 (by rw [pts]; unfold ptm; rw [e1]; simp only []; rw [e2])
    · rw [ix_n (by omega) (by omega)]
      rintro S8 rfl
      have r8 : RC (uI S6 4 0 c 7) T L y1 (nI y1) := r6.i (by omega)
      exact x_sgn0 (r8.ne hy1 hL) (fin2 _ y1 y1 _ (n6.d.tr (ND.i (by omega))) hy1 hy1 r8 (by rw [pts]; unfold ptm; rw [e1]))
theorem m_terms (hL : L ≤ 400) {k : Int32 → sSt → Prop} : ∀ r c x m (S : sSt), c + r = 4 → r < m → x ≤ L → RM S T L x → S.1 5 0 1 = nI c → (∀ l y, pts T L r x = (some l, y) → y ≤ L → ∀ S', NMd S S' → RM S' T L y → (∀ z, z ≠ 1 → (z < 2 + 3 * c ∨ 14 ≤ z) → S'.1 5 0 z = S.1 5 0 z) → (∀ m, m < l.length → S'.1 5 0 (2 + 3 * (c + m)) = nI (tget l m).1 ∧ S'.1 5 0 (2 + 3 * (c + m) + 1) = nI (tget l m).2.1 ∧ S'.1 5 0 (2 + 3 * (c + m) + 2) = nI (tget l m).2.2) → S'.1 5 0 1 = nI (c + l.length) → c + l.length ≤ 4 → (∀ m, m < l.length → (tget l m).2.1 ≤ 3) → k 1 S') → (∀ y, pts T L r x = (none, y) → ∀ S', NMd S S' → S'.1 0 0 12 = nI y → k 0 S') → B_X12_readTerms_0 (m + 1) S k := by
  intro r
  induction r with
  | zero =>
    intro c x m S hc hm hx h hcnt h1 h0
    have e : c = 4 := by omega
    subst e
    simp only [B_X12_readTerms_0_s, Bb_X12_readTerms_0, F_X12_readTerm, forall_eq]
    rw [hcnt]
    refine m_col h hx hL (fun cc y1 e1 c7 hy1 S4 n4 r4 b4 => ⟨fun _ => ?_, fun z => absurd (Eq.refl _) z⟩) (fun y1 e1 S4 n4 b4 yb => ⟨fun _ => ?_, fun z => absurd (Eq.refl _) z⟩)
    · exact ⟨fun z => absurd trivial z, fun _ => h0 _ (Eq.refl _) S4 n4.d b4⟩
    · rw [yb] at b4
      exact ⟨fun z => absurd trivial z, fun _ => h0 _ (Eq.refl _) S4 n4.d b4⟩
  | succ r ih =>
    intro c x m S hc hm hx h hcnt h1 h0
    have hc4 : ¬ nI c = 4 := fun q => by rw [show (4 : Int32) = nI 4 from Eq.refl _, nI_eq (by omega) (by omega)] at q; omega
    simp only [B_X12_readTerms_0_s, Bb_X12_readTerms_0, F_X12_readTerm, forall_eq]
    rw [hcnt]
    simp only [hc4, false_implies, true_and, not_false_eq_true, true_implies]
    have e2c : (2 + 3 * nI c : Int32) = nI (2 + 3 * c) := by rw [show (2 : Int32) = nI 2 from Eq.refl _, show (3 : Int32) = nI 3 from Eq.refl _, pk_mul, nI_add]
    rw [e2c]
    refine m_col h hx hL (fun cc y1 e1 c7 hy1 S4 n4 r4 b4 => ⟨fun _ => ?_, fun z => absurd (nI_pos' (by omega)) z⟩) (fun y1 e1 S4 n4 b4 yb => ⟨fun z => absurd z (by decide), fun _ => ⟨fun z => absurd trivial z, h0 y1 (by rw [pts]; unfold ptm; rw [e1]) S4 n4.d b4⟩⟩)
    refine m_sgn r4 hy1 hL (fun ss y2 e2 s3 hy2 S8 n8 r8 => ⟨fun _ => ?_, fun z => absurd (nI_pos' (by omega)) z⟩) (fun y2 e2 S8 n8 b8 => ⟨fun z => absurd z (by decide), fun _ => ?_⟩)
    · refine m_num (lo := 0) (hi := 999) (by omega) (by omega) r8 hy2 hL (fun v y3 e3 _ v9 hy3 S11 n11 r11 => ?_) (fun y3 e3 S11 n11 b11 => ?_)
      · have et : ptm T L x = (some (cc, ss, v), y3) := by unfold ptm; rw [e1]; simp only []; rw [e2]; simp only []; rw [e3]
        rw [B_X12_readTerm_52]
        refine ⟨fun _ => ?_, fun z => absurd (nI_pos' (by omega)) z⟩
        rw [na_1, na_2, ix_n (by omega) (by omega)]
        rintro S14 e14
        rw [ix_n (by omega) (by omega)]
        rintro S16 e16
        rw [ix_n (by omega) (by omega)]
        rintro S18 e18 S19 e19
        have h51 : S11.1 5 0 1 = nI c := by rw [n11.1 5 0 (by omega), n8.1 5 0 (by omega), n4.1 5 0 (by omega)]; exact hcnt
        have h51' : S18.1 5 0 1 = nI c := by rw [e18, uI_nc (by omega), e16, uI_nc (by omega), e14, uI_nc (by omega)]; exact h51
        rw [h51', nI_1] at e19
        have n19 : NMd S S19 := by rw [e19, e18, e16, e14]; exact n4.d.tr (n8.d.tr (n11.d.tr (NMd.i.tr (NMd.i.tr (NMd.i.tr NMd.i)))))
        have r19 : RM S19 T L y3 := by rw [e19, e18, e16, e14]; exact r11.i.i.i.i
        have ce : ∀ S20, NM S19 S20 → (∀ z, z ≠ 1 → (z < 2 + 3 * c ∨ 14 ≤ z) → S20.1 5 0 z = S.1 5 0 z) ∧ (S20.1 5 0 (2 + 3 * c) = nI cc ∧ S20.1 5 0 (2 + 3 * c + 1) = nI ss ∧ S20.1 5 0 (2 + 3 * c + 2) = nI v) ∧ S20.1 5 0 1 = nI (c + 1) := by
          intro S20 n20
          have n0 := n20.1 5 0 (by omega)
          refine ⟨fun z z1 z2 => ?_, ⟨?_, ?_, ?_⟩, ?_⟩
          · rw [n0, e19, uI_nc (by omega), e18, uI_nc (by omega), e16, uI_nc (by omega), e14, uI_nc (by omega), n11.1 5 0 (by omega), n8.1 5 0 (by omega), n4.1 5 0 (by omega)]
          · rw [n0, e19, uI_nc (by omega), e18, uI_nc (by omega), e16, uI_nc (by omega), e14, uI_at]
          · rw [n0, e19, uI_nc (by omega), e18, uI_nc (by omega), e16, uI_at]
          · rw [n0, e19, uI_nc (by omega), e18, uI_at]
          · rw [n0, e19, uI_at]
        refine ⟨fun _ => ?_, fun z => absurd z (by decide)⟩
        refine m_pass (by omega) r19 hy3 hL (fun q S20 n20 r20 => ⟨fun _ => ?_, fun z => absurd z (by decide)⟩) (fun q S20 n20 r20 => ⟨fun z => absurd (Eq.refl _) z, fun _ => ?_⟩)
        · obtain ⟨k1, k2, k3⟩ := ce S20 n20
          obtain ⟨m, rfl⟩ : ∃ z, m = z + 1 := ⟨m - 1, by omega⟩
          refine ih (c + 1) (el T L (bl T L y3)) m S20 (by omega) (by omega) (el_bl_le hL hy3) r20 k3 (fun l y e hy S' n' r' o' d' c' l4 s' => ?_) (fun y e S' n' b' => ?_)
          · refine h1 ((cc, ss, v) :: l) y (by rw [pts, et]; simp only []; rw [if_pos q, e]) hy S' (n19.tr (n20.d.tr n')) r' (fun z z1 z2 => by rw [o' z z1 (by omega)]; exact k1 z z1 z2) (fun mm hmm => ?_) (by rw [c', List.length_cons]; congr 1; omega) (by rw [List.length_cons]; omega) (fun mm hmm => ?_)
            · rcases mm with _ | mm
              · rw [Nat.add_zero, o' (2 + 3 * c) (by omega) (by omega), o' (2 + 3 * c + 1) (by omega) (by omega), o' (2 + 3 * c + 2) (by omega) (by omega)]
                exact k2
              · rw [List.length_cons] at hmm
                rw [tget_s, show c + (mm + 1) = c + 1 + mm from by omega]
                exact d' mm (by omega)
            · rcases mm with _ | mm
              · exact s3
              · rw [List.length_cons] at hmm
                rw [tget_s]; exact s' mm (by omega)
          · exact h0 y (by rw [pts, et]; simp only []; rw [if_pos q, e]) S' (n19.tr (n20.d.tr n')) b'
        · obtain ⟨k1, k2, k3⟩ := ce S20 n20
          refine h1 [(cc, ss, v)] (bl T L y3) (by rw [pts, et]; simp only []; rw [if_neg (by rw [q]; decide)]) (bl_ok (T := T) hL hy3).2.1 S20 (n19.tr n20.d) r20 k1 (fun mm hmm => ?_) k3 (by rw [List.length_singleton]; omega) (fun mm hmm => ?_)
          · rw [List.length_singleton] at hmm
            rw [show mm = 0 from by omega]
            exact k2
          · rw [List.length_singleton] at hmm
            rw [show mm = 0 from by omega]
            exact s3
      · rw [B_X12_readTerm_52]
        exact ⟨fun z => absurd z (by decide), fun _ => ⟨fun z => absurd (Eq.refl _) z, fun _ => h0 y3 (by rw [pts]; unfold ptm; rw [e1]; simp only []; rw [e2]; simp only []; rw [e3]) S11 (n4.d.tr (n8.d.tr n11.d)) b11⟩⟩
    · rw [B_X12_readTerm_52]
      exact ⟨fun z => absurd z (by decide), fun _ => ⟨fun z => absurd (Eq.refl _) z, fun _ => h0 y2 (by rw [pts]; unfold ptm; rw [e1]; simp only []; rw [e2]) S8 (n4.d.tr n8.d) b8⟩⟩
end PL
end PU67
