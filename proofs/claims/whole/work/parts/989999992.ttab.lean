section PU78
/-! CALL table: line after line -/
section TX
variable {S S' S1 : sSt} {T : Nat → Int32} {L x y b f lo hi t p B : Nat} {w : Wd} {ns np cm nl : Nat} {π : List Nat} {wr : Int32}
theorem x_endw (hL : L ≤ 400) (hp : p ≤ L) (hy : y ≤ L) (h : RC S T L p (nI y)) {k : Int32 → sSt → Prop} (hk : k 0 S) : F_X8_needEnd S (fun S16 => F_X8_isRight S16 (fun r17 S18 => bz r17 (k r17 S18))) := by
  have w := h.ne hy hL
  have fin : F_X8_isRight S (fun r17 S18 => bz r17 (k r17 S18)) := x_isRight (fun z => absurd z w) (fun _ => bz_0.mpr hk)
  rw [F_X8_needEnd, x_isAtEnd h hp hL]
  exact ⟨fun _ => fin, fun _ => x_refuse0 w fin⟩
theorem x_tab15 (hT : byt T) (hL : L ≤ 400) (hBB : B < 999000) {k : Int32 → sSt → Prop} : ∀ r c m (S : sSt) (w : Wd) (x : Nat), c + r = 14 → r < m → x ≤ L → zY S t w B → RC S T L (bl T L x) (-1) → (∀ w' y, ptl T L r w x = (some w', y) → ∀ S', KT t S S' → zY S' t w' B → S'.1 1 0 4 = -1 → k 1 S') → (∀ y, ptl T L r w x = (none, y) → y ≤ L → ∀ S', KT t S S' → S'.1 1 0 4 = nI y → k 0 S') → B_X7_readInto_15 m t (nI c) S k := by
  intro r
  induction r with
  | zero =>
    intro c m S w x hc hm hx hY h h1 h0
    obtain ⟨m, rfl⟩ : ∃ z, m = z + 1 := ⟨m - 1, by omega⟩
    have e : c = 14 := by omega
    subst e
    have b2 := (bl_ok (T := T) hL hx).2.1
    simp only [B_X7_readInto_15_s, Bb_X7_readInto_15]
    exact ⟨fun _ => x_refuse h (fun S' n' r' => h0 _ rfl b2 S' n'.k r'.2.2.1), fun q => absurd (show (14 : Int32) ≤ nI 14 from by decide) q⟩
  | succ r ih =>
    intro c m S w x hc hm hx hY h h1 h0
    obtain ⟨m, rfl⟩ : ∃ z, m = z + 1 := ⟨m - 1, by omega⟩
    obtain ⟨π, ns, np, cm, nl, hb, hB⟩ := hY
    simp only [B_X7_readInto_15_s, Bb_X7_readInto_15]
    refine ⟨fun q => absurd q (nI_ge (b := 14) (by omega) (by omega)), fun _ => ?_⟩
    refine x_line hT hb hB hBB h hx hL (fun w' y e hy S1 k1 y1 r1 => ?_) (fun y e hy S1 p k1 hp r1 => ?_)
    · have b2 := (bl_ok (T := T) hL hy).2.1
      have ep : ∀ Q, (if isS T L (bl T L y) 59 = true then ptl T L r w' (bl T L y + 1) else if bl T L y = L then (some w', L) else (none, bl T L y)) = Q → ptl T L (r + 1) w x = Q := fun Q q => by rw [ptl, bnd_s e]; exact q
      refine x_takeSign hT (by decide) (by decide) r1 b2 hL (fun q S2 n2 r2 => ⟨fun _ => ?_, fun z => absurd z (by decide)⟩) (fun q => ⟨fun z => absurd rfl z, fun _ => ?_⟩)
      · rintro x14 rfl
        rw [nI_1]
        obtain ⟨π', ns', np', cm', nl', hb', hB'⟩ := y1
        exact ih (c + 1) m S2 w' (bl T L y + 1) (by omega) (by omega) (isS_lt q) ⟨π', ns', np', cm', nl', hb'.nc n2, hB'⟩ r2 (fun w'' v e2 S' kk yy r' => h1 w'' v (ep _ (by rw [if_pos q]; exact e2)) S' (k1.tr (n2.k.tr kk)) yy r') (fun v e2 hv S' kk r' => h0 v (ep _ (by rw [if_pos q]; exact e2)) hv S' (k1.tr (n2.k.tr kk)) r')
      · rw [F_X8_needEnd, x_isAtEnd r1 b2 hL]
        by_cases c2 : bl T L y = L
        · rw [decide_eq_true c2]
          refine ⟨fun _ => ?_, fun z => absurd z (by decide)⟩
          exact x_isRight (fun _ => bz_1.mpr (h1 w' L (ep _ (by rw [if_neg (by rw [q]; decide), if_pos c2])) S1 k1 y1 r1.2.2.1)) (fun z => absurd r1.2.2.1 z)
        · rw [decide_eq_false c2]
          refine ⟨fun z => absurd rfl z, fun _ => x_refuse r1 (fun S2 n2 r2 => ?_)⟩
          exact x_isRight (fun z => absurd z (r2.ne b2 hL)) (fun _ => bz_0.mpr (h0 _ (ep _ (by rw [if_neg (by rw [q]; decide), if_neg c2])) b2 S2 (k1.tr n2.k) r2.2.2.1))
    · have ep : ptl T L (r + 1) w x = (none, y) := by rw [ptl]; exact bnd_n e
      exact x_takeSign0 (r1.ne hy hL) ⟨fun z => absurd rfl z, fun _ => x_endw hL hp hy r1 (h0 y ep hy S1 k1 r1.2.2.1)⟩
theorem x_readInto (hT : byt T) (hL : L ≤ 400) (hBB : B < 999000) (h2 : S.1 1 0 2 = nI L) (ht : ∀ z, z < L → S.1 2 0 z = T z) (hY : zY S t w B) {k : Int32 → sSt → Prop} (h1 : ∀ w' y, ptb T L w = (some w', y) → ∀ S', KT t S S' → zY S' t w' B → S'.1 1 0 4 = -1 → k 1 S') (h0 : ∀ y, ptb T L w = (none, y) → y ≤ L → ∀ S', KT t S S' → S'.1 1 0 4 = nI y → k 0 S') : F_X7_readInto t S k := by
  rw [F_X7_readInto]
  refine x_start (T := T) hL h2 ht (fun S1 n1 r1 => ?_)
  have hY1 : zY S1 t w B := by
    obtain ⟨π', ns', np', cm', nl', hb', hB'⟩ := hY
    exact ⟨π', ns', np', cm', nl', hb'.nc n1, hB'⟩
  rw [x_isAtEnd r1 (bl_ok (T := T) hL (Nat.zero_le L)).2.1 hL]
  by_cases c : bl T L 0 = L
  · rw [decide_eq_true c]
    exact ⟨fun z => absurd z (by decide), fun _ => h1 w L (by unfold ptb; rw [if_pos c]) S1 n1.k hY1 r1.2.2.1⟩
  · rw [decide_eq_false c]
    refine ⟨fun _ => ?_, fun z => absurd rfl z⟩
    have e : ptb T L w = ptl T L 14 w 0 := by unfold ptb; rw [if_neg c]
    exact x_tab15 hT hL hBB 14 0 fuel S1 w 0 (by omega) (fuel_gt (by omega)) (Nat.zero_le L) hY1 r1 (fun w' y e' S' kk yy r' => h1 w' y (e.trans e') S' (n1.k.tr kk) yy r') (fun y e' hy S' kk r' => h0 y (e.trans e') hy S' (n1.k.tr kk) r')
/-! the model -/
theorem m_tab19 (hL : L ≤ 400) (hBB : B < 999000) {k : Int32 → sSt → Prop} : ∀ r c m (S : sSt) (w : Wd) (x : Nat), c + r = 14 → r < m → x ≤ L → OY w B → S.1 1 0 = w → RM S T L x → (∀ w' y, ptl T L r w x = (some w', y) → OY w' B → (∀ z, 1589 ≤ z ∨ z = 2 → w' z = w z) → ∀ S', NW S S' → S'.1 1 0 = w' → k 1 S') → (∀ y, ptl T L r w x = (none, y) → ∀ S', NW S S' → S'.1 0 0 12 = nI y → (∀ z, 1589 ≤ z → S'.1 1 0 z = w z) → k 0 S') → B_X12_readTable_19 m (nI c) S k := by
  intro r
  induction r with
  | zero =>
    intro c m S w x hc hm hx hY hw h h1 h0
    obtain ⟨m, rfl⟩ : ∃ z, m = z + 1 := ⟨m - 1, by omega⟩
    have e : c = 14 := by omega
    subst e
    simp only [B_X12_readTable_19_s, Bb_X12_readTable_19]
    refine m_letters h hx hL (fun S1 n1 r1 e1 => ⟨fun _ => h0 _ rfl S1 n1.nw e1 (fun z _ => by rw [n1.1 1 0 (by omega), hw]), fun q => absurd (show nI 14 = (14 : Int32) from rfl) q⟩)
  | succ r ih =>
    intro c m S w x hc hm hx hY hw h h1 h0
    obtain ⟨m, rfl⟩ : ∃ z, m = z + 1 := ⟨m - 1, by omega⟩
    obtain ⟨π, ns, np, cm, nl, hO, hW, hB⟩ := id hY
    have hc14 : ¬ nI c = 14 := fun q => by rw [show (14 : Int32) = nI 14 from rfl, nI_eq (by omega) (by omega)] at q; omega
    simp only [B_X12_readTable_19_s, Bb_X12_readTable_19]
    refine m_letters h hx hL (fun S1 n1 r1 e1 => ⟨fun q => absurd q hc14, fun _ => ?_⟩)
    refine m_line hO hW r1 e1 (by rw [n1.1 1 0 (by omega)]; exact hw) hx hL (fun w' y e hy S2 n2 r2 w2 => ⟨fun _ => ?_, fun z => absurd z (by decide)⟩) (fun y e S2 n2 b2 w2 => ⟨fun z => absurd rfl z, fun _ => ?_⟩)
    · obtain ⟨hY', hk', -⟩ := pln_ok hL hx hY hBB e
      have ep : ∀ Q, (if isS T L (bl T L y) 59 = true then ptl T L r w' (bl T L y + 1) else if bl T L y = L then (some w', L) else (none, bl T L y)) = Q → ptl T L (r + 1) w x = Q := fun Q q => by rw [ptl, bnd_s e]; exact q
      have b2 := (bl_ok (T := T) hL hy).2.1
      refine m_blanks r2 hy hL (fun S3 n3 r3 e3 => ?_)
      have w3 : S3.1 1 0 = w' := by rw [n3.1 1 0 (by omega)]; exact w2
      have nn : NW S S3 := n1.nw.tr (n2.tr n3.nw)
      rw [r3.1, r3.2.1, nI_eq (by omega) (by omega)]
      refine ⟨fun q => ?_, fun q => ?_⟩
      · rw [m_isAt r3 b2 hL, Bool.and_assoc, at_c]
        cases q2 : isS T L (bl T L y) 59
        · have q' : (decide (bl T L y < L) && decide (T (bl T L y) = 59)) = false := q2
          rw [q']
          refine ⟨fun z => absurd rfl z, fun _ => h0 _ (ep _ (by rw [if_neg (by rw [q2]; decide), if_neg q])) S3 nn e3 (fun z hz => by rw [w3]; exact hk' z (Or.inl hz))⟩
        · have q' : (decide (bl T L y < L) && decide (T (bl T L y) = 59)) = true := q2
          rw [q']
          refine ⟨fun _ => ?_, fun z => absurd z (by decide)⟩
          rintro S16 rfl x17 rfl
          rw [r3.1, nI_1, nI_1]
          have n16 : NM S3 (uI S3 0 0 10 (nI (bl T L y + 1))) := NM.f (Or.inl rfl)
          refine ih (c + 1) m _ w' (bl T L y + 1) (by omega) (by omega) (isS_lt q2) hY' (by rw [uI_other (by omega)]; exact w3) (r3.n n16 uI_at) (fun w'' v e2 y2 k2 S' n' w''' => ?_) (fun v e2 S' n' b' w''' => ?_)
          · exact h1 w'' v (ep _ (by rw [if_pos q2]; exact e2)) y2 (fun z hz => (k2 z hz).trans (hk' z hz)) S' (nn.tr (n16.nw.tr n')) w'''
          · exact h0 v (ep _ (by rw [if_pos q2]; exact e2)) S' (nn.tr (n16.nw.tr n')) b' (fun z hz => (w''' z hz).trans (hk' z (Or.inl hz)))
      · have hn : isS T L (bl T L y) 59 = false := by
          cases z : isS T L (bl T L y) 59
          · rfl
          · have := isS_lt z; omega
        exact h1 w' L (ep _ (by rw [if_neg (by rw [hn]; decide), if_pos q])) hY' hk' S3 nn w3
    · exact h0 y (by rw [ptl]; exact bnd_n e) S2 (n1.nw.tr n2) b2 (fun z _ => by rw [w2])
theorem m_readTable (hL : L ≤ 400) (hBB : B < 999000) (hY : OY w B) (hw : S.1 1 0 = w) (h : RM S T L 0) {k : Int32 → sSt → Prop} (h1 : ∀ w' y, ptb T L w = (some w', y) → (∀ z, 1589 ≤ z ∨ z = 2 → w' z = w z) → ∀ S', NW S S' → S'.1 1 0 = w' → k 1 S') (h0 : ∀ y, ptb T L w = (none, y) → ∀ S', NW S S' → S'.1 0 0 12 = nI y → (∀ z, 1589 ≤ z → S'.1 1 0 z = w z) → k 0 S') : F_X12_readTable S k := by
  have b2 := (bl_ok (T := T) hL (Nat.zero_le L)).2.1
  rw [F_X12_readTable]
  refine m_blanks h (Nat.zero_le L) hL (fun S1 n1 r1 e1 => ?_)
  have w1 : S1.1 1 0 = w := by rw [n1.1 1 0 (by omega)]; exact hw
  rw [r1.1, r1.2.1, nI_eq (by omega) (by omega)]
  refine ⟨fun q => ?_, fun q => h1 w L (by unfold ptb; rw [if_pos q]) (fun _ _ => rfl) S1 n1.nw w1⟩
  have e : ptb T L w = ptl T L 14 w 0 := by unfold ptb; rw [if_neg q]
  have bb := bl_bl (T := T) hL (Nat.zero_le L)
  -- the loop begins behind the blanks
  have e2 : ptl T L 14 w (bl T L 0) = ptl T L 14 w 0 := by
    rw [ptl, ptl]
    have : pln T L w (bl T L 0) = pln T L w 0 := by
      unfold pln wrd
      rw [bb]
    rw [this]
  exact m_tab19 hL hBB 14 0 fuel S1 w (bl T L 0) (by omega) (fuel_gt (by omega)) b2 hY w1 r1 (fun w' y e' _ k' S' n' w'' => h1 w' y (by rw [e, ← e2]; exact e') k' S' (n1.nw.tr n') w'') (fun y e' S' n' b' w'' => h0 y (by rw [e, ← e2]; exact e') S' (n1.nw.tr n') b' w'')
/-- the world is put by, and brought back -/
theorem m_tab6 (hw : S.1 1 0 = w) {k : Int32 → sSt → Prop} (hk : ∀ S', (∀ a b, ¬ (a = 3 ∧ b = 0) → S'.1 a b = S.1 a b) → (∀ z, z < 1589 → S'.1 3 0 z = w z) → F_X12_readTable S' (fun r4 S5 => ((r4 = 0 → B_X12_table_49 r4 (S5.1 0 0 12) S5 k) ∧ (¬ r4 = 0 → B_X12_table_49 r4 (-1) S5 k)))) : B_X12_table_6 fuel 0 S k := by
  suffices hh : ∀ r i m (S1 : sSt), i + r = 1589 → r < m → (∀ a b, ¬ (a = 3 ∧ b = 0) → S1.1 a b = S.1 a b) → (∀ z, z < i → S1.1 3 0 z = w z) → B_X12_table_6 m (nI i) S1 k from hh 1589 0 fuel S (by omega) (fuel_gt (by omega)) (fun _ _ _ => rfl) (fun z hz => absurd hz (Nat.not_lt_zero z))
  intro r
  induction r with
  | zero =>
    intro i m S1 hi hm o hz
    obtain ⟨m, rfl⟩ : ∃ z, m = z + 1 := ⟨m - 1, by omega⟩
    have e : i = 1589 := by omega
    subst e
    simp only [B_X12_table_6_s, Bb_X12_table_6]
    exact ⟨fun _ => hk S1 o hz, fun q => absurd (show (1589 : Int32) ≤ nI 1589 from by decide) q⟩
  | succ r ih =>
    intro i m S1 hi hm o hz
    obtain ⟨m, rfl⟩ : ∃ z, m = z + 1 := ⟨m - 1, by omega⟩
    simp only [B_X12_table_6_s, Bb_X12_table_6]
    refine ⟨fun q => absurd q (nI_ge (b := 1589) (show i < 1589 by omega) (by omega)), fun _ => ?_⟩
    rw [ix_n (by omega) (by omega), ix_n (by omega) (by omega)]
    rintro S24 rfl x25 rfl
    rw [nI_1]
    refine ih (i + 1) m _ (by omega) (by omega) (fun a b z => by rw [uI_other z]; exact o a b z) (fun z hz' => ?_)
    by_cases e : z = i
    · rw [e, uI_at, o 1 0 (by omega), hw]
    · rw [uI_nc (by omega)]; exact hz z (by omega)
theorem m_tab93 (h3 : ∀ z, z < 1589 → S.1 3 0 z = w z) (hh : ∀ z, 1589 ≤ z → S.1 1 0 z = w z) {k : Int32 → sSt → Prop} (hk : ∀ S', (∀ a b, ¬ (a = 1 ∧ b = 0) → S'.1 a b = S.1 a b) → S'.1 1 0 = w → k 0 S') : B_X12_table_93 S k := by
  rw [B_X12_table_93]
  suffices hl : ∀ r i m (S1 : sSt), i + r = 1589 → r < m → (∀ a b, ¬ (a = 1 ∧ b = 0) → S1.1 a b = S.1 a b) → (∀ z, z < i ∨ 1589 ≤ z → S1.1 1 0 z = w z) → B_X12_table_95 m (nI i) S1 k from hl 1589 0 fuel S (by omega) (fuel_gt (by omega)) (fun _ _ _ => rfl) (fun z hz => hh z (by omega))
  intro r
  induction r with
  | zero =>
    intro i m S1 hi hm o hz
    obtain ⟨m, rfl⟩ : ∃ z, m = z + 1 := ⟨m - 1, by omega⟩
    have e : i = 1589 := by omega
    subst e
    simp only [B_X12_table_95_s, Bb_X12_table_95]
    exact ⟨fun _ => hk S1 o (funext fun z => hz z (by omega)), fun q => absurd (show (1589 : Int32) ≤ nI 1589 from by decide) q⟩
  | succ r ih =>
    intro i m S1 hi hm o hz
    obtain ⟨m, rfl⟩ : ∃ z, m = z + 1 := ⟨m - 1, by omega⟩
    simp only [B_X12_table_95_s, Bb_X12_table_95]
    refine ⟨fun q => absurd q (nI_ge (b := 1589) (show i < 1589 by omega) (by omega)), fun _ => ?_⟩
    rw [ix_n (by omega) (by omega), ix_n (by omega) (by omega)]
    rintro S15 rfl x16 rfl
    rw [nI_1]
    refine ih (i + 1) m _ (by omega) (by omega) (fun a b z => by rw [uI_other z]; exact o a b z) (fun z hz' => ?_)
    by_cases e : z = i
    · rw [e, uI_at, o 3 0 (by omega)]; exact h3 i (by omega)
    · rw [uI_nc (by omega)]; exact hz z (by omega)
end TX
end PU78
