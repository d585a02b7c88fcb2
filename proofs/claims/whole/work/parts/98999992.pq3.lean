section PU68
/-! READING a query: the keys -/
section PL
variable {S S' S1 : sSt} {T : Nat → Int32} {L x y p b : Nat} {wr : Int32}
theorem nb0 : vp_nar .boolean 0 = 0 := by decide
theorem nb1 : vp_nar .boolean 1 = 1 := by decide
theorem x_keys (hT : byt T) (hL : L ≤ 400) {k : sSt → Prop} : ∀ r c x m (S : sSt), c + r = 4 → r < m → x ≤ L → RC S T L (bl T L x) (-1) → (∀ l y, pks T L r x = (some l, y) → y ≤ L → ∀ S', ND S S' → RC S' T L (bl T L y) (-1) → (∀ a, 3 ≤ a → a ≤ 8 → ∀ z, (7 ≤ a ∧ z < c) ∨ (a = 3 ∧ z ≠ 7) ∨ (4 ≤ a ∧ a ≤ 6) → S'.1 a 0 z = S.1 a 0 z) → (∀ m, m < l.length → S'.1 7 0 (c + m) = nI (kget l m).1 ∧ S'.1 8 0 (c + m) = nI (kget l m).2) → S'.1 3 0 7 = nI (c + l.length) → k S') → (∀ y, pks T L r x = (none, y) → y ≤ L → ∀ S' p, ND S S' → p ≤ L → RC S' T L p (nI y) → k S') → B_X3_readKeys_15 m 0 (nI c) S k := by
  intro r
  induction r with
  | zero =>
    intro c x m S hc hm hx h h1 h0
    obtain ⟨m, rfl⟩ : ∃ z, m = z + 1 := ⟨m - 1, by omega⟩
    have e : c = 4 := by omega
    subst e
    have b2 := (bl_ok (T := T) hL hx).2.1
    simp only [B_X3_readKeys_15_s, Bb_X3_readKeys_15]
    exact ⟨fun _ => x_refuse h (fun S' n' r' => h0 _ (Eq.refl _) b2 S' _ n'.d b2 r'), fun q => absurd (show (4 : Int32) ≤ nI 4 from by decide) q⟩
  | succ r ih =>
    intro c x m S hc hm hx h h1 h0
    obtain ⟨m, rfl⟩ : ∃ z, m = z + 1 := ⟨m - 1, by omega⟩
    simp only [B_X3_readKeys_15_s, Bb_X3_readKeys_15]
    refine ⟨fun q => absurd q (nI_ge (b := 4) (by omega) (by omega)), fun _ => ?_⟩
    refine x_col hT h hx hL (fun cc y1 e1 c7 hy1 S6 n6 r6 => ?_) (fun y1 e1 hy1 S6 n6 r6 => ?_)
    · rw [ix_n (by omega) (by omega)]
      rintro S8 rfl
      have r8 : RC (uI S6 7 0 c (nI cc)) T L (bl T L y1) (-1) := r6.i (by omega)
      have go : ∀ (v y3 : Nat) (S14 : sSt), v ≤ 1 → y3 ≤ L → NC (uI S6 7 0 c (nI cc)) S14 → RC S14 T L (bl T L y3) (-1) → pkey T L x = (some (cc, v), y3) → ∀ S15, S15 = uI S14 8 0 c (vp_nar .boolean (nI v)) → ∀ S16, S16 = uI S15 3 0 7 (nI c + 1) → F_X8_takeSign 44 S16 (fun r17 S18 => ((¬ r17 = 0 → ∀ x20 : Int32, x20 = nI c + 1 → B_X3_readKeys_15 m 0 x20 S18 k) ∧ (r17 = 0 → k S18))) := by
        rintro v y3 S14 v1 hy3 n14 r14 et S15 rfl S16 rfl
        have eb : vp_nar .boolean (nI v) = nI v := by
          rcases (show v = 0 ∨ v = 1 by omega) with rfl | rfl
          · exact nb0
          · exact nb1
        rw [eb]
        have r16 : RC (uI (uI S14 8 0 c (nI v)) 3 0 7 (nI c + 1)) T L (bl T L y3) (-1) := (r14.i (by omega)).i (by omega)
        have n16 : ND S (uI (uI S14 8 0 c (nI v)) 3 0 7 (nI c + 1)) := n6.d.tr ((ND.i (by omega)).tr (n14.d.tr ((ND.i (by omega)).tr (ND.i (by omega)))))
        have ce : ∀ S18, NC (uI (uI S14 8 0 c (nI v)) 3 0 7 (nI c + 1)) S18 → (∀ a, 3 ≤ a → a ≤ 8 → ∀ z, (7 ≤ a ∧ z < c) ∨ (a = 3 ∧ z ≠ 7) ∨ (4 ≤ a ∧ a ≤ 6) → S18.1 a 0 z = S.1 a 0 z) ∧ (S18.1 7 0 c = nI cc ∧ S18.1 8 0 c = nI v) ∧ S18.1 3 0 7 = nI (c + 1) := by
          intro S18 n18
          refine ⟨fun a a3 a8 z hz => ?_, ⟨?_, ?_⟩, ?_⟩
          · rw [n18.1 a 0 (by omega), uI_nc (by omega), uI_nc (by omega), n14.1 a 0 (by omega), uI_nc (by omega), n6.1 a 0 (by omega)]
          · rw [n18.1 7 0 (by omega), uI_other (by omega), uI_other (by omega), n14.1 7 0 (by omega), uI_at]
          · rw [n18.1 8 0 (by omega), uI_other (by omega), uI_at]
          · rw [n18.1 3 0 (by omega), uI_at, nI_1]
        have hb3 := (bl_ok (T := T) hL hy3).2.1
        refine x_takeSign hT (by decide) (by decide) r16 hb3 hL (fun q S18 n18 r18 => ⟨fun _ => ?_, fun z => absurd z (by decide)⟩) (fun q => ⟨fun z => absurd (Eq.refl _) z, fun _ => ?_⟩)
        · rintro x20 rfl
          rw [nI_1]
          obtain ⟨k1, k2, k3⟩ := ce S18 n18
          refine ih (c + 1) (bl T L y3 + 1) m S18 (by omega) (by omega) (isS_lt q) r18 (fun l y e hy S' n' r' o' d' c' => ?_) (fun y e hy S' p n' hp r' => ?_)
          · refine h1 ((cc, v) :: l) y (by rw [pks, et]; simp only []; rw [if_pos q, e]) hy S' (n16.tr (n18.d.tr n')) r' (fun a a3 a8 z hz => by rw [o' a a3 a8 z (by omega)]; exact k1 a a3 a8 z hz) (fun mm hmm => ?_) (by rw [c', List.length_cons]; congr 1; omega)
            rcases mm with _ | mm
            · rw [Nat.add_zero, o' 7 (by omega) (by omega) c (by omega), o' 8 (by omega) (by omega) c (by omega)]
              exact k2
            · rw [List.length_cons] at hmm
              rw [kget_s, show c + (mm + 1) = c + 1 + mm from by omega]
              exact d' mm (by omega)
          · exact h0 y (by rw [pks, et]; simp only []; rw [if_pos q, e]) hy S' p (n16.tr (n18.d.tr n')) hp r'
        · obtain ⟨k1, k2, k3⟩ := ce _ NC.rfl
          refine h1 [(cc, v)] (bl T L y3) (by rw [pks, et]; simp only []; rw [if_neg (by rw [q]; decide)]) hb3 _ n16 (by rw [bl_bl hL hy3]; exact r16) k1 (fun mm hmm => ?_) k3
          rw [List.length_singleton] at hmm
          rw [show mm = 0 from by omega]
          exact k2
      refine x_word hT (by omega) r8 hy1 hL (fun q S14 n14 r14 => ?_) (fun q => ?_)
      · exact go 1 (el T L (bl T L y1)) S14 (by omega) (el_bl_le hL hy1) n14 r14 (by unfold pkey; rw [e1]; simp only []; rw [if_pos q])
      · exact go 0 (bl T L y1) _ (by omega) (bl_ok (T := T) hL hy1).2.1 NC.rfl (by rw [bl_bl hL hy1]; exact r8) (by unfold pkey; rw [e1]; simp only []; rw [if_neg (by rw [q]; decide)])
    · rw [ix_n (by omega) (by omega)]
      rintro S8 rfl
      have r8 : RC (uI S6 7 0 c 7) T L y1 (nI y1) := r6.i (by omega)
      refine x_takeWord0 (r8.ne hy1 hL) ?_
      rintro S15 rfl S16 rfl
      have r16 : RC (uI (uI (uI S6 7 0 c 7) 8 0 c (vp_nar .boolean 0)) 3 0 7 (nI c + 1)) T L y1 (nI y1) := (r8.i (by omega)).i (by omega)
      exact x_takeSign0 (r16.ne hy1 hL) ⟨fun z => absurd (Eq.refl _) z, fun _ => h0 y1 (by rw [pks]; unfold pkey; rw [e1]) hy1 _ y1 (n6.d.tr ((ND.i (by omega)).tr ((ND.i (by omega)).tr (ND.i (by omega))))) hy1 r16⟩
theorem m_keys (hL : L ≤ 400) {k : Int32 → sSt → Prop} : ∀ r c x m (S : sSt), c + r = 4 → r < m → x ≤ L → RM S T L x → S.1 5 0 14 = nI c → (∀ l y, pks T L r x = (some l, y) → y ≤ L → ∀ S', NMd S S' → RM S' T L y → (∀ z, z ≠ 14 → z < 15 + 2 * c → S'.1 5 0 z = S.1 5 0 z) → (∀ m, m < l.length → S'.1 5 0 (15 + 2 * (c + m)) = nI (kget l m).1 ∧ S'.1 5 0 (15 + 2 * (c + m) + 1) = nI (kget l m).2) → S'.1 5 0 14 = nI (c + l.length) → c + l.length ≤ 4 → (∀ m, m < l.length → (kget l m).2 ≤ 1) → k 1 S') → (∀ y, pks T L r x = (none, y) → ∀ S', NMd S S' → S'.1 0 0 12 = nI y → k 0 S') → B_X12_readKeys_15 (m + 1) S k := by
  intro r
  induction r with
  | zero =>
    intro c x m S hc hm hx h hcnt h1 h0
    have e : c = 4 := by omega
    subst e
    simp only [B_X12_readKeys_15_s, Bb_X12_readKeys_15, F_X12_readKey, forall_eq]
    rw [hcnt]
    refine m_col h hx hL (fun cc y1 e1 c7 hy1 S4 n4 r4 b4 => ⟨fun _ => ?_, fun z => absurd (Eq.refl _) z⟩) (fun y1 e1 S4 n4 b4 yb => ⟨fun _ => ?_, fun z => absurd (Eq.refl _) z⟩)
    · exact ⟨fun z => absurd trivial z, fun _ => h0 _ (Eq.refl _) S4 n4.d b4⟩
    · rw [yb] at b4
      exact ⟨fun z => absurd trivial z, fun _ => h0 _ (Eq.refl _) S4 n4.d b4⟩
  | succ r ih =>
    intro c x m S hc hm hx h hcnt h1 h0
    have hc4 : ¬ nI c = 4 := fun q => by rw [show (4 : Int32) = nI 4 from Eq.refl _, nI_eq (by omega) (by omega)] at q; omega
    simp only [B_X12_readKeys_15_s, Bb_X12_readKeys_15, F_X12_readKey, forall_eq]
    rw [hcnt]
    simp only [hc4, false_implies, true_and, not_false_eq_true, true_implies]
    have e2c : (15 + 2 * nI c : Int32) = nI (15 + 2 * c) := by rw [show (2 : Int32) = nI 2 from Eq.refl _, show (15 : Int32) = nI 15 from Eq.refl _, pk_mul, nI_add]
    rw [e2c]
    refine m_col h hx hL (fun cc y1 e1 c7 hy1 S4 n4 r4 b4 => ⟨fun _ => ?_, fun z => absurd (nI_pos' (by omega)) z⟩) (fun y1 e1 S4 n4 b4 yb => ⟨fun z => absurd z (by decide), fun _ => ⟨fun z => absurd trivial z, h0 y1 (by rw [pks]; unfold pkey; rw [e1]) S4 n4.d b4⟩⟩)
    rw [ix_n (by omega) (by omega)]
    have r8 : RM (uI S4 5 0 (15 + 2 * c) (nI cc)) T L y1 := r4.i
    have go : ∀ (v y3 : Nat) (S10 : sSt), v ≤ 1 → y3 ≤ L → NM (uI S4 5 0 (15 + 2 * c) (nI cc)) S10 → RM S10 T L y3 → pkey T L x = (some (cc, v), y3) → B_X12_readKey_59 (nI (15 + 2 * c) + 1) (nI v) S10 (fun r6 S7 => ((¬ r6 = 0 → F_X12_sign 44 S7 (fun r9 S10 => ((¬ r9 = 0 → B_X12_readKeys_15 m S10 k) ∧ (r9 = 0 → k 1 S10)))) ∧ (r6 = 0 → k 0 S7))) := by
      intro v y3 S10 v1 hy3 n10 r10 et
      rw [B_X12_readKey_59, na_1, ix_n (by omega) (by omega)]
      rintro S13 e13 S14 e14
      have h14 : S10.1 5 0 14 = nI c := by rw [n10.1 5 0 (by omega), uI_nc (by omega), n4.1 5 0 (by omega)]; exact hcnt
      have h14' : S13.1 5 0 14 = nI c := by rw [e13, uI_nc (by omega)]; exact h14
      rw [h14', nI_1] at e14
      have n14 : NMd S S14 := by rw [e14, e13]; exact n4.d.tr (NMd.i.tr (n10.d.tr (NMd.i.tr NMd.i)))
      have r14 : RM S14 T L y3 := by rw [e14, e13]; exact r10.i.i
      have ce : ∀ S20, NM S14 S20 → (∀ z, z ≠ 14 → z < 15 + 2 * c → S20.1 5 0 z = S.1 5 0 z) ∧ (S20.1 5 0 (15 + 2 * c) = nI cc ∧ S20.1 5 0 (15 + 2 * c + 1) = nI v) ∧ S20.1 5 0 14 = nI (c + 1) := by
        intro S20 n20
        have n0 := n20.1 5 0 (by omega)
        refine ⟨fun z z1 z2 => ?_, ⟨?_, ?_⟩, ?_⟩
        · rw [n0, e14, uI_nc (by omega), e13, uI_nc (by omega), n10.1 5 0 (by omega), uI_nc (by omega), n4.1 5 0 (by omega)]
        · rw [n0, e14, uI_nc (by omega), e13, uI_nc (by omega), n10.1 5 0 (by omega), uI_at]
        · rw [n0, e14, uI_nc (by omega), e13, uI_at]
        · rw [n0, e14, uI_at]
      refine ⟨fun _ => ?_, fun z => absurd z (by decide)⟩
      have hb3 := (bl_ok (T := T) hL hy3).2.1
      refine m_sign r14 hy3 hL (fun q S20 n20 r20 => ⟨fun _ => ?_, fun z => absurd z (by decide)⟩) (fun q S20 n20 r20 _ => ⟨fun z => absurd (Eq.refl _) z, fun _ => ?_⟩)
      · obtain ⟨k1, k2, k3⟩ := ce S20 n20
        obtain ⟨m, rfl⟩ : ∃ z, m = z + 1 := ⟨m - 1, by omega⟩
        refine ih (c + 1) (bl T L y3 + 1) m S20 (by omega) (by omega) (isS_lt q) r20 k3 (fun l y e hy S' n' r' o' d' c' l4 s' => ?_) (fun y e S' n' b' => ?_)
        · refine h1 ((cc, v) :: l) y (by rw [pks, et]; simp only []; rw [if_pos q, e]) hy S' (n14.tr (n20.d.tr n')) r' (fun z z1 z2 => by rw [o' z z1 (by omega)]; exact k1 z z1 z2) (fun mm hmm => ?_) (by rw [c', List.length_cons]; congr 1; omega) (by rw [List.length_cons]; omega) (fun mm hmm => ?_)
          · rcases mm with _ | mm
            · rw [Nat.add_zero, o' (15 + 2 * c) (by omega) (by omega), o' (15 + 2 * c + 1) (by omega) (by omega)]
              exact k2
            · rw [List.length_cons] at hmm
              rw [kget_s, show c + (mm + 1) = c + 1 + mm from by omega]
              exact d' mm (by omega)
          · rcases mm with _ | mm
            · exact v1
            · rw [List.length_cons] at hmm
              rw [kget_s]; exact s' mm (by omega)
        · exact h0 y (by rw [pks, et]; simp only []; rw [if_pos q, e]) S' (n14.tr (n20.d.tr n')) b'
      · obtain ⟨k1, k2, k3⟩ := ce S20 n20
        refine h1 [(cc, v)] (bl T L y3) (by rw [pks, et]; simp only []; rw [if_neg (by rw [q]; decide)]) hb3 S20 (n14.tr n20.d) r20 k1 (fun mm hmm => ?_) k3 (by rw [List.length_singleton]; omega) (fun mm hmm => ?_)
        · rw [List.length_singleton] at hmm
          rw [show mm = 0 from by omega]
          exact k2
        · rw [List.length_singleton] at hmm
          rw [show mm = 0 from by omega]
          exact v1
    refine m_pass (by omega) r8 hy1 hL (fun q S10 n10 r10 => ⟨fun z => absurd z (by decide), fun _ => ?_⟩) (fun q S10 n10 r10 => ⟨fun _ => ?_, fun z => absurd (Eq.refl _) z⟩)
    · exact go 1 _ S10 (by omega) (el_bl_le hL hy1) n10 r10 (by unfold pkey; rw [e1]; simp only []; rw [if_pos q])
    · exact go 0 _ S10 (by omega) (bl_ok (T := T) hL hy1).2.1 n10 r10 (by unfold pkey; rw [e1]; simp only []; rw [if_neg (by rw [q]; decide)])
end PL
end PU68
