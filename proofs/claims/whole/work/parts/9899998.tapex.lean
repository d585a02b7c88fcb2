section PU64
/-! READING: the class -/
section RD
variable {S S' S1 : sSt} {T : Nat → Int32} {L x y p b i : Nat} {wr : Int32}
theorem x_moveTo (h : RC S T L y wr) (hx : x ≤ L) (hL : L ≤ 400) {k : sSt → Prop} (hk : ∀ S', NC S S' → RC S' T L (bl T L x) wr → k S') : F_X8_moveTo (nI x) S k := by
  obtain ⟨b1, b2, b3, b4⟩ := bl_ok (T := T) hL hx
  rw [F_X8_moveTo]
  rintro S0 rfl
  have n0 : NC S (uI S 1 0 3 (nI x)) := NC.f (Or.inl rfl)
  have h0 : RC (uI S 1 0 3 (nI x)) T L x wr := h.n n0 uI_at (by rw [uI_nc (by omega)]; exact h.2.2.1)
  suffices hh : ∀ r x' m (S1 : sSt), x' + r = bl T L x → x ≤ x' → r < m → NC S S1 → RC S1 T L x' wr → B_X8_moveTo_5 m S1 k from hh (bl T L x - x) x fuel _ (by omega) (Nat.le_refl _) (fuel_gt (by omega)) n0 h0
  intro r
  induction r with
  | zero =>
    intro x' m S1 he hxx hm n hR
    obtain ⟨m, rfl⟩ : ∃ z, m = z + 1 := ⟨m - 1, by omega⟩
    have e : x' = bl T L x := by omega
    subst e
    have fin := hk S1 n hR
    simp only [B_X8_moveTo_5_s, Bb_X8_moveTo_5]
    rw [hR.1, hR.2.1]
    refine ⟨fun _ => fin, fun q => ⟨fun _ => fin, fun q2 => ?_⟩⟩
    have hlt : bl T L x < L := by
      rcases Nat.lt_or_ge (bl T L x) L with z | z
      · exact z
      · exact absurd (nI_le z (by omega)) q
    rw [ix_n (by omega) (by omega), hR.2.2.2 _ hlt]
    refine ⟨fun _ => fin, fun q3 => ?_⟩
    unfold tbl at b4
    rw [decide_eq_true hlt, decide_eq_true q3] at b4
    exact absurd b4 (by decide)
  | succ r ih =>
    intro x' m S1 he hxx hm n hR
    obtain ⟨m, rfl⟩ : ∃ z, m = z + 1 := ⟨m - 1, by omega⟩
    have hb := b3 x' hxx (by omega)
    unfold tbl at hb
    simp only [Bool.and_eq_true, decide_eq_true_eq] at hb
    simp only [B_X8_moveTo_5_s, Bb_X8_moveTo_5]
    rw [hR.1, hR.2.1]
    refine ⟨fun q => absurd q (nI_ge hb.1 (by omega)), fun _ => ⟨fun q => absurd q (nI_ge (b := 400) (show x' < 400 by omega) (by omega)), fun _ => ?_⟩⟩
    rw [ix_n (by omega) (by omega), hR.2.2.2 _ hb.1]
    refine ⟨fun q => absurd hb.2 q, fun _ => ?_⟩
    rintro S6 rfl
    rw [nI_1]
    exact ih (x' + 1) m _ (by omega) (by omega) (by omega) (n.tr (NC.f (Or.inl rfl))) (hR.n (NC.f (Or.inl rfl)) uI_at (by rw [uI_nc (by omega)]; exact hR.2.2.1))
theorem x_byteAt (h : RC S T L p wr) (hL : L ≤ 400) (hx : x < 2000) {k : Int32 → sSt → Prop} : F_X8_byteAt (nI x) S k ↔ k (bby T L x) S := by
  rw [F_X8_byteAt, h.1]
  have n0 : ¬ nI x < 0 := nI_pos (by omega)
  unfold bby
  simp only [n0, false_implies, true_and, not_false_eq_true, true_implies, B_X8_byteAt_19]
  by_cases c : x < L
  · have q : ¬ nI L ≤ nI x := nI_ge c (by omega)
    have q2 : nI x < 400 := nI_lt (b := 400) (by omega) (by omega)
    simp only [q, q2, false_implies, true_and, not_false_eq_true, true_implies, not_true_eq_false, and_true, c, if_true]
    rw [ix_n (by omega) (by omega), h.2.2.2 _ c]
  · have q : nI L ≤ nI x := nI_le (by omega) (by omega)
    simp only [q, true_implies, not_true_eq_false, false_implies, and_true, c, if_false]
/-- the tape holds bytes -/
def byt (T : Nat → Int32) : Prop := ∀ z, T z = (T z).toInt8.toInt32
theorem bby_in (hT : byt T) {a c : Int32} (ha : 0 ≤ a) (hc : c ≤ 127) : (¬ bby T L x < a ∧ ¬ c < bby T L x) ↔ (x < L ∧ ¬ T x < a ∧ ¬ c < T x) := by
  unfold bby
  obtain ⟨e1, e2⟩ := i8_and (T x) (hT x)
  by_cases h : x < L
  · rw [if_pos h]
    by_cases s : T x < 0
    · have := e2 s
      refine ⟨fun q => absurd (Int32.lt_of_le_of_lt hc this) q.2, fun q => ?_⟩
      exact absurd (Int32.lt_of_lt_of_le s ha) q.2.1
    · rw [e1 (Int32.not_lt.mp s)]
      exact ⟨fun q => ⟨h, q.1, q.2⟩, fun q => ⟨q.2.1, q.2.2⟩⟩
  · rw [if_neg h]
    refine ⟨fun q => ?_, fun q => absurd q.1 h⟩
    exact absurd (Int32.lt_of_lt_of_le (by decide : (-1 : Int32) < 0) ha) q.1
theorem bby_eq (hT : byt T) {a : Int32} (ha : 0 ≤ a) (hc : a ≤ 127) : bby T L x = a ↔ (x < L ∧ T x = a) := by
  unfold bby
  obtain ⟨e1, e2⟩ := i8_and (T x) (hT x)
  by_cases h : x < L
  · rw [if_pos h]
    by_cases s : T x < 0
    · have h2 := e2 s
      refine ⟨fun q => ?_, fun q => ?_⟩
      · rw [q] at h2; exact absurd (Int32.lt_of_le_of_lt hc h2) Int32.lt_irrefl
      · rw [q.2] at s; exact absurd (Int32.lt_of_lt_of_le s ha) Int32.lt_irrefl
    · rw [e1 (Int32.not_lt.mp s)]
      exact ⟨fun q => ⟨h, q⟩, fun q => q.2⟩
  · rw [if_neg h]
    refine ⟨fun q => ?_, fun q => absurd q.1 h⟩
    rw [← q] at ha; exact absurd ha (by decide)
theorem ch_ok2 : ∀ i, i < 29 → ∀ j, j < lenTx.getD i 0 → ¬ chTx i j < 97 ∧ ¬ 122 < chTx i j ∧ 0 ≤ chTx i j ∧ chTx i j ≤ 127 := by decide
theorem tle_b (hT : byt T) : tle T L x = true ↔ (¬ bby T L x < 97 ∧ ¬ 122 < bby T L x) := by
  rw [bby_in hT (by decide) (by decide)]
  unfold tle
  simp only [Bool.and_eq_true, decide_eq_true_eq, Bool.not_eq_true', decide_eq_false_iff_not]
  exact ⟨fun q => ⟨q.1.1, q.1.2, q.2⟩, fun q => ⟨⟨q.1, q.2.1⟩, q.2.2⟩⟩
theorem tdi_b (hT : byt T) : tdi T L x = true ↔ (¬ bby T L x < 48 ∧ ¬ 57 < bby T L x) := by
  rw [bby_in hT (by decide) (by decide)]
  unfold tdi
  simp only [Bool.and_eq_true, decide_eq_true_eq, Bool.not_eq_true', decide_eq_false_iff_not]
  exact ⟨fun q => ⟨q.1.1, q.1.2, q.2⟩, fun q => ⟨⟨q.1, q.2.1⟩, q.2.2⟩⟩
theorem isW_iff {e : Nat} : isW T i b e = true ↔ (e - b = lenTx.getD i 0 ∧ ∀ j, j < lenTx.getD i 0 → T (b + j) = chTx i j) := by
  unfold isW
  rw [Bool.and_eq_true, decide_eq_true_eq, List.all_eq_true]
  refine ⟨fun q => ⟨q.1, fun j hj => ?_⟩, fun q => ⟨q.1, fun j hj => ?_⟩⟩
  · have := q.2 j (by rw [List.mem_range'_1]; omega)
    rw [decide_eq_true_eq] at this; exact this
  · rw [List.mem_range'_1] at hj
    rw [decide_eq_true_eq]
    exact q.2 j (by omega)
/-- two words that are both there are alike -/
theorem isW_x {i i' e : Nat} (h : isW T i b e = true) (h' : isW T i' b e = true) : lenTx.getD i 0 = lenTx.getD i' 0 ∧ ∀ j, j < lenTx.getD i 0 → chTx i j = chTx i' j := by
  rw [isW_iff] at h h'
  have e : lenTx.getD i 0 = lenTx.getD i' 0 := by rw [← h.1, ← h'.1]
  exact ⟨e, fun j hj => by rw [← h.2 j hj, ← h'.2 j (by omega)]⟩
theorem x_takeWord (hT : byt T) (hi : i < 29) (h : RC S T L b (-1)) (hb : b ≤ L) (hL : L ≤ 400) {k : Int32 → sSt → Prop} (h1 : isW T i b (el T L b) = true → ∀ S', NC S S' → RC S' T L (bl T L (el T L b)) (-1) → k 1 S') (h0 : isW T i b (el T L b) = false → k 0 S) : F_X8_takeWord i S k := by
  obtain ⟨c1, c2, c3, c4⟩ := el_ok (T := T) hL hb
  obtain ⟨l1, l8⟩ := len_ok i hi
  have no : ¬ isW T i b (el T L b) = true → k 0 S := fun q => h0 (by
    cases z : isW T i b (el T L b)
    · rfl
    · exact absurd z q)
  rw [F_X8_takeWord, h.2.2.1]
  refine ⟨fun _ => ?_, fun q => absurd rfl q⟩
  suffices hh : ∀ r j m, j + r = lenTx.getD i 0 → r < m → (∀ z, z < j → b + z < L ∧ T (b + z) = chTx i z) → B_X8_takeWord_12 m i (nI j) S k from hh (lenTx.getD i 0) 0 fuel (by omega) (fuel_gt (by omega)) (fun z hz => absurd hz (Nat.not_lt_zero z))
  intro r
  induction r with
  | zero =>
    intro j m hj hm hz
    obtain ⟨m, rfl⟩ : ∃ z, m = z + 1 := ⟨m - 1, by omega⟩
    have e : j = lenTx.getD i 0 := by omega
    subst e
    have hle : ∀ z, b ≤ z → z < b + lenTx.getD i 0 → tle T L z = true := fun z q1 q2 => by
      obtain ⟨w1, w2⟩ := hz (z - b) (by omega)
      have w3 := ch_ok2 i hi (z - b) (by omega)
      rw [show b + (z - b) = z from by omega] at w1 w2
      unfold tle
      rw [w2, decide_eq_true w1, decide_eq_false w3.1, decide_eq_false w3.2.1]; rfl
    have hbl : b + lenTx.getD i 0 ≤ L := by have := hz (lenTx.getD i 0 - 1) (by omega); omega
    simp only [B_X8_takeWord_12_s, Bb_X8_takeWord_12, nI_le (Nat.le_refl (lenTx.getD i 0)) (show lenTx.getD i 0 < 2147483648 by omega), true_implies, not_true_eq_false, false_implies, and_true]
    rw [h.2.1, nI_add, x_byteAt h hL (by omega)]
    have yes : tle T L (b + lenTx.getD i 0) = false → B_X8_takeWord_74 i S k := fun q => by
      have ee : el T L b = b + lenTx.getD i 0 := rn_un 401 b _ (by omega) (by omega) hle q
      rw [B_X8_takeWord_74, h.2.1, nI_add]
      refine x_moveTo h hbl hL (fun S' n' r' => ?_)
      refine h1 ?_ S' n' (by rw [ee]; exact r')
      rw [isW_iff, ee]
      exact ⟨by omega, fun z q1 => (hz z q1).2⟩
    have nb := tle_b (L := L) (x := b + lenTx.getD i 0) hT
    refine ⟨fun q => yes ?_, fun q => ⟨fun q2 => yes ?_, fun q2 => no ?_⟩⟩
    · cases z : tle T L (b + lenTx.getD i 0)
      · rfl
      · exact absurd q (nb.mp z).1
    · cases z : tle T L (b + lenTx.getD i 0)
      · rfl
      · exact absurd q2 (nb.mp z).2
    · rw [isW_iff]
      rintro ⟨z, -⟩
      have t1 := nb.mpr ⟨q, q2⟩
      rw [show b + lenTx.getD i 0 = el T L b from by omega, c4] at t1
      exact absurd t1 (by decide)
  | succ r ih =>
    intro j m hj hm hz
    obtain ⟨m, rfl⟩ : ∃ z, m = z + 1 := ⟨m - 1, by omega⟩
    have hlt : ¬ nI (lenTx.getD i 0) ≤ nI j := nI_ge (by omega) (by omega)
    simp only [B_X8_takeWord_12_s, Bb_X8_takeWord_12, hlt, false_implies, true_and, not_false_eq_true, true_implies, forall_eq, nI_1]
    rw [h.2.1, nI_add, x_byteAt h hL (by omega), ix_n (by omega) (by omega)]
    have w3 := ch_ok2 i hi j (by omega)
    have be := bby_eq (L := L) (x := b + j) hT w3.2.2.1 w3.2.2.2
    refine ⟨fun q => ?_, fun q => no ?_⟩
    · have q' := be.mp q
      refine ih (j + 1) m (by omega) (by omega) (fun z hz' => ?_)
      by_cases e : z = j
      · rw [e]; exact q'
      · exact hz z (by omega)
    · rw [isW_iff]
      rintro ⟨z1, z2⟩
      exact q (be.mpr ⟨by omega, z2 j (by omega)⟩)
/-- after something wrong nothing is taken any more -/
theorem x_takeWord0 (hw : S.1 1 0 4 ≠ -1) {k : Int32 → sSt → Prop} (hk : k 0 S) : F_X8_takeWord i S k := by
  rw [F_X8_takeWord]
  exact ⟨fun q => absurd q hw, fun _ => hk⟩
theorem x_refuse0 (hw : S.1 1 0 4 ≠ -1) {k : sSt → Prop} (hk : k S) : F_X8_refuse S k := by
  rw [F_X8_refuse]
  exact ⟨fun _ => hk, fun q => absurd q hw⟩
theorem x_refuse (h : RC S T L p (-1)) {k : sSt → Prop} (hk : ∀ S', NC S S' → RC S' T L p (nI p) → k S') : F_X8_refuse S k := by
  rw [F_X8_refuse, h.2.2.1]
  refine ⟨fun q => absurd rfl q, fun _ => ?_⟩
  rintro S2 rfl
  refine hk _ (NC.f (Or.inr rfl)) (h.n (NC.f (Or.inr rfl)) ?_ ?_)
  · rw [uI_nc (by omega)]; exact h.2.1
  · rw [uI_at]; exact h.2.1
theorem x_isRight {k : Int32 → sSt → Prop} (h1 : S.1 1 0 4 = -1 → k 1 S) (h0 : S.1 1 0 4 ≠ -1 → k 0 S) : F_X8_isRight S k := by
  rw [F_X8_isRight]
  exact ⟨fun q => h0 q, fun q => h1 q⟩
theorem x_takeSign (hT : byt T) {a : Int32} (ha : 0 ≤ a) (hc : a ≤ 127) (h : RC S T L p (-1)) (hp : p ≤ L) (hL : L ≤ 400) {k : Int32 → sSt → Prop} (h1 : isS T L p a = true → ∀ S', NC S S' → RC S' T L (bl T L (p + 1)) (-1) → k 1 S') (h0 : isS T L p a = false → k 0 S) : F_X8_takeSign a S k := by
  have be := bby_eq (L := L) (x := p) hT ha hc
  rw [F_X8_takeSign, h.2.2.1]
  refine ⟨fun q => absurd rfl q, fun _ => ?_⟩
  rw [h.2.1, x_byteAt h hL (by omega)]
  refine ⟨fun q => ?_, fun q => h0 ?_⟩
  · have q' := be.mp q
    rw [h.2.1, nI_1]
    exact x_moveTo h (by omega) hL (h1 (by unfold isS; rw [decide_eq_true q'.1, decide_eq_true q'.2]; rfl))
  · cases z : isS T L p a
    · rfl
    · unfold isS at z
      simp only [Bool.and_eq_true, decide_eq_true_eq] at z
      exact absurd (be.mpr z) q
theorem x_takeSign0 {a : Int32} (hw : S.1 1 0 4 ≠ -1) {k : Int32 → sSt → Prop} (hk : k 0 S) : F_X8_takeSign a S k := by
  rw [F_X8_takeSign]
  exact ⟨fun _ => hk, fun q => absurd q hw⟩
theorem x_isAtEnd (h : RC S T L p wr) (hp : p ≤ L) (hL : L ≤ 400) {k : Int32 → sSt → Prop} : F_X8_isAtEnd S k ↔ k (b2i (decide (p = L))) S := by
  rw [F_X8_isAtEnd, h.1, h.2.1, nI_ltI (by omega) (by omega)]
  by_cases c : p = L
  · simp [c, b2i]
  · simp [c, b2i, show p < L by omega]
/-! numbers -/
/-- the digits that the class looks at from p on -/
theorem x_num15 (hT : byt T) {lo hi : Nat} (h : RC S T L p wr) (hp : p ≤ L) (hL : L ≤ 400) {k : Int32 → sSt → Prop} (hk : ∀ j, j ≤ 4 → p + j ≤ ed T L p → (j = 4 ∨ p + j = ed T L p) → B_X8_number_65 (nI lo) (nI hi) (nI (vlu T p j)) (nI j) S k) : F_X8_number (nI lo) (nI hi) S k := by
  obtain ⟨c1, c2, c3, c4⟩ := ed_ok (T := T) hL hp
  rw [F_X8_number, h.2.1, x_byteAt h hL (by omega)]
  suffices hh : ∀ r j m, j + r = 4 → p + j ≤ ed T L p → r < m → B_X8_number_15 m (nI lo) (nI hi) (nI (vlu T p j)) (nI j) (bby T L (p + j)) S k from hh 4 0 fuel (by omega) (by omega) (fuel_gt (by omega))
  intro r
  induction r with
  | zero =>
    intro j m hj hd hm
    obtain ⟨m, rfl⟩ : ∃ z, m = z + 1 := ⟨m - 1, by omega⟩
    have e : j = 4 := by omega
    subst e
    simp only [B_X8_number_15_s, Bb_X8_number_15]
    exact ⟨fun _ => hk 4 (Nat.le_refl 4) hd (Or.inl rfl), fun q => absurd (nI_lt (a := 3) (show 3 < 4 by omega) (by omega)) q⟩
  | succ r ih =>
    intro j m hj hd hm
    obtain ⟨m, rfl⟩ : ∃ z, m = z + 1 := ⟨m - 1, by omega⟩
    have nb := tdi_b (L := L) (x := p + j) hT
    have stop : ¬ tdi T L (p + j) = true → B_X8_number_65 (nI lo) (nI hi) (nI (vlu T p j)) (nI j) S k := fun q => by
      refine hk j (by omega) hd (Or.inr ?_)
      rcases Nat.lt_or_ge (p + j) (ed T L p) with z | z
      · exact absurd (c3 (p + j) (by omega) z) q
      · omega
    simp only [B_X8_number_15_s, Bb_X8_number_15]
    refine ⟨fun q => absurd q (nI_nlt (b := j) (a := 3) (by omega) (by omega)), fun _ => ⟨fun q => stop (fun z => (nb.mp z).1 q), fun q => ⟨fun q2 => stop (fun z => (nb.mp z).2 q2), fun q2 => ?_⟩⟩⟩
    have t1 := nb.mpr ⟨q, q2⟩
    obtain ⟨hpl, c, d1, d2, d3, d4⟩ := tdi_v t1
    have eb : bby T L (p + j) = nI c := by
      have := (bby_eq (L := L) (x := p + j) (a := nI c) hT (nI_pos' (by omega)) (nI_le (b := 127) (by omega) (by omega))).mpr ⟨hpl, d3⟩
      exact this
    rw [eb]
    have ev : nI (vlu T p j) * 10 + nI c - 48 = nI (vlu T p (j + 1)) := by
      rw [vlu, d4, show (10 : Int32) = nI 10 from rfl, show (48 : Int32) = nI 48 from rfl, pk_mul, nI_add, pk_sub (by omega)]
      congr 1; omega
    rw [ev]
    rintro x16 rfl x17 rfl
    rw [nI_1, h.2.1, nI_add, x_byteAt h hL (by omega)]
    refine ih (j + 1) m (by omega) ?_ (by omega)
    rcases Nat.lt_or_ge (p + j) (ed T L p) with z | z
    · omega
    · rw [show p + j = ed T L p from by omega, c4] at t1; exact absurd t1 (by decide)
theorem x_number0 (hT : byt T) {lo hi : Nat} (h : RC S T L p wr) (hw : wr ≠ -1) (hp : p ≤ L) (hL : L ≤ 400) {k : Int32 → sSt → Prop} (hk : k (-1) S) : F_X8_number (nI lo) (nI hi) S k := by
  refine x_num15 hT h hp hL (fun j hj hd he => ?_)
  have w : S.1 1 0 4 ≠ -1 := by rw [h.2.2.1]; exact hw
  have fin : ∀ t, B_X8_number_92 (nI (vlu T p j)) (nI j) t S k := fun t => by
    rw [B_X8_number_92, B_X8_number_107, h.2.2.1]
    exact ⟨fun _ => x_refuse0 w hk, fun q => absurd q hw⟩
  rw [B_X8_number_65, B_X8_number_91]
  exact ⟨fun _ => fin 0, fun _ => ⟨fun _ => fin 0, fun _ => ⟨fun _ => fin 0, fun _ => ⟨fun _ => fin 0, fun _ => fin 1⟩⟩⟩⟩
theorem x_number (hT : byt T) {lo hi : Nat} (h9 : hi ≤ 999) (hlo : lo ≤ 999) (h : RC S T L p (-1)) (hp : p ≤ L) (hL : L ≤ 400) {k : Int32 → sSt → Prop} (h1 : ∀ v, nbr T L p lo hi = some v → ∀ S', NC S S' → RC S' T L (bl T L (ed T L p)) (-1) → k (nI v) S') (h0 : nbr T L p lo hi = none → ∀ S', NC S S' → RC S' T L p (nI p) → k (-1) S') : F_X8_number (nI lo) (nI hi) S k := by
  obtain ⟨c1, c2, c3, c4⟩ := ed_ok (T := T) hL hp
  refine x_num15 hT h hp hL (fun j hj hd he => ?_)
  have hv : vlu T p j < 10000 := by
    have := vlu_le (L := L) (x := p) (y := j) (fun z q1 q2 => c3 z q1 (by omega)) j (Nat.le_refl j)
    have h10 : 10 ^ j ≤ 10 ^ 4 := Nat.pow_le_pow_right (by omega) (by omega)
    omega
  have bad : nbr T L p lo hi = none → B_X8_number_92 (nI (vlu T p j)) (nI j) 0 S k := fun q => by
    rw [B_X8_number_92, B_X8_number_107, h.2.2.1]
    exact ⟨fun z => absurd rfl z, fun _ => ⟨fun z => absurd rfl z, fun _ => x_refuse h (h0 q)⟩⟩
  have no : ¬ (1 ≤ ed T L p - p ∧ ed T L p - p ≤ 3 ∧ lo ≤ vlu T p (ed T L p - p) ∧ vlu T p (ed T L p - p) ≤ hi) → nbr T L p lo hi = none := fun q => by unfold nbr; rw [if_neg q]
  rw [B_X8_number_65, B_X8_number_91, show (1 : Int32) = nI 1 from rfl, show (3 : Int32) = nI 3 from rfl, nI_ltI (by omega) (by omega), nI_ltI (by omega) (by omega), nI_ltI (by omega) (by omega), nI_ltI (by omega) (by omega)]
  refine ⟨fun q => bad (no (fun z => by omega)), fun q => ⟨fun q2 => bad (no (fun z => by omega)), fun q2 => ?_⟩⟩
  have ej : ed T L p - p = j := by omega
  refine ⟨fun q3 => bad (no (fun z => by rw [ej] at z; omega)), fun q3 => ⟨fun q4 => bad (no (fun z => by rw [ej] at z; omega)), fun q4 => ?_⟩⟩
  rw [B_X8_number_92, h.2.2.1]
  refine ⟨fun z => absurd rfl z, fun _ => ⟨fun _ => ?_, fun z => absurd z (by decide)⟩⟩
  rw [h.2.1, nI_add]
  have ee : p + j = ed T L p := by omega
  refine x_moveTo h (by omega) hL (fun S' n' r' => ?_)
  rw [ee] at r'
  exact h1 _ (by unfold nbr; rw [ej, if_pos ⟨by omega, by omega, by omega, by omega⟩]) S' n' r'
theorem x_numberBehind0 (hT : byt T) {lo hi : Nat} (h : RC S T L p wr) (hw : wr ≠ -1) (hp : p ≤ L) (hL : L ≤ 400) {k : Int32 → sSt → Prop} (hk : k (-1) S) : F_X8_numberBehind i (nI lo) (nI hi) S k := by
  have w : S.1 1 0 4 ≠ -1 := by rw [h.2.2.1]; exact hw
  rw [F_X8_numberBehind]
  refine x_takeWord0 w ⟨fun q => absurd rfl q, fun _ => x_refuse0 w ?_⟩
  rw [B_X8_numberBehind_12]
  exact x_number0 hT h hw hp hL hk
theorem x_numberBehind (hT : byt T) (hi29 : i < 29) {lo hi : Nat} (h9 : hi ≤ 999) (hlo : lo ≤ 999) (h : RC S T L b (-1)) (hb : b ≤ L) (hL : L ≤ 400) {k : Int32 → sSt → Prop} (h1 : isW T i b (el T L b) = true → ∀ v, nbr T L (bl T L (el T L b)) lo hi = some v → ∀ S', NC S S' → RC S' T L (bl T L (ed T L (bl T L (el T L b)))) (-1) → k (nI v) S') (h2 : isW T i b (el T L b) = true → nbr T L (bl T L (el T L b)) lo hi = none → ∀ S', NC S S' → RC S' T L (bl T L (el T L b)) (nI (bl T L (el T L b))) → k (-1) S') (h0 : isW T i b (el T L b) = false → ∀ S', NC S S' → RC S' T L b (nI b) → k (-1) S') : F_X8_numberBehind i (nI lo) (nI hi) S k := by
  obtain ⟨c1, c2, -, -⟩ := el_ok (T := T) hL hb
  obtain ⟨d1, d2, -, -⟩ := bl_ok (T := T) hL c2
  rw [F_X8_numberBehind]
  refine x_takeWord hT hi29 h hb hL (fun q S1 n1 r1 => ⟨fun _ => ?_, fun z => absurd z (by decide)⟩) (fun q => ⟨fun z => absurd rfl z, fun _ => ?_⟩)
  · rw [B_X8_numberBehind_12]
    exact x_number hT h9 hlo r1 d2 hL (fun v q2 S' n' r' => h1 q v q2 S' (n1.tr n') r') (fun q2 S' n' r' => h2 q q2 S' (n1.tr n') r')
  · refine x_refuse h (fun S1 n1 r1 => ?_)
    rw [B_X8_numberBehind_12]
    exact x_number0 hT r1 (ni_m1 (by omega)) hb hL (h0 q S1 n1 r1)
/-- the model's number behind a word -/
theorem m_numBehind (hi29 : i < 29) {lo hi : Nat} (h9 : hi ≤ 999) (hlo : lo ≤ 999) (h : RM S T L x) (hx : x ≤ L) (hL : L ≤ 400) {k : Int32 → sSt → Prop} (h1 : isW T i (bl T L x) (el T L (bl T L x)) = true → ∀ v, nbr T L (bl T L (el T L (bl T L x))) lo hi = some v → ∀ S', NM S S' → RM S' T L (ed T L (bl T L (el T L (bl T L x)))) → k (nI v) S') (h2 : isW T i (bl T L x) (el T L (bl T L x)) = true → nbr T L (bl T L (el T L (bl T L x))) lo hi = none → ∀ S', NM S S' → S'.1 0 0 12 = nI (bl T L (el T L (bl T L x))) → k (-1) S') (h0 : isW T i (bl T L x) (el T L (bl T L x)) = false → ∀ S', NM S S' → S'.1 0 0 12 = nI (bl T L x) → k (-1) S') : F_X12_behind i (nI lo) (nI hi) S k := by
  obtain ⟨b1, b2, -, -⟩ := bl_ok (T := T) hL hx
  obtain ⟨c1, c2, -, -⟩ := el_ok (T := T) hL b2
  rw [F_X12_behind]
  refine m_letters h hx hL (fun S2 n2 r2 e2 => ?_)
  rw [m_isWord hi29 r2 e2 c1 c2 hL]
  cases q : isW T i (bl T L x) (el T L (bl T L x))
  · exact ⟨fun _ => h0 q S2 n2 e2, fun z => absurd rfl z⟩
  · refine ⟨fun z => absurd z (by decide), fun _ => ?_⟩
    exact m_number h9 hlo r2 c2 hL (fun v q2 S' n' r' => h1 q v q2 S' (n2.tr n') r') (fun q2 S' n' r' => h2 q q2 S' (n2.tr n') r')
end RD
end PU64
