section PU63
/-! READING: runs of a tape -/
def rn (P : Nat → Bool) : Nat → Nat → Nat
  | 0, x => x
  | r + 1, x => if P x = true then rn P r (x + 1) else x
section RN
variable {P : Nat → Bool} {L : Nat}
theorem rn_ok : ∀ r x, x ≤ rn P r x ∧ rn P r x ≤ x + r ∧ (∀ z, x ≤ z → z < rn P r x → P z = true) ∧ (rn P r x < x + r → P (rn P r x) = false) := by
  intro r
  induction r with
  | zero => intro x; exact ⟨Nat.le_refl _, Nat.le_refl _, fun z a b => absurd (Nat.lt_of_le_of_lt a b) (Nat.lt_irrefl _), fun h => absurd h (Nat.lt_irrefl _)⟩
  | succ r ih =>
    intro x
    rw [rn]
    by_cases c : P x = true
    · rw [if_pos c]
      obtain ⟨a, b, d, e⟩ := ih (x + 1)
      refine ⟨by omega, by omega, fun z q1 q2 => ?_, fun h => e (by omega)⟩
      by_cases q : z = x
      · rw [q]; exact c
      · exact d z (by omega) q2
    · rw [if_neg c]
      refine ⟨Nat.le_refl _, by omega, fun z q1 q2 => by omega, fun _ => ?_⟩
      cases q : P x
      · rfl
      · exact absurd q c
theorem rn_L (hP : ∀ z, P z = true → z < L) (hL : L ≤ 400) {x : Nat} (hx : x ≤ L) : x ≤ rn P 401 x ∧ rn P 401 x ≤ L ∧ (∀ z, x ≤ z → z < rn P 401 x → P z = true) ∧ P (rn P 401 x) = false := by
  obtain ⟨a, b, c, d⟩ := rn_ok (P := P) 401 x
  have hlt : rn P 401 x ≤ L := by
    rcases Nat.lt_or_ge x (rn P 401 x) with q | q
    · have := hP _ (c (rn P 401 x - 1) (by omega) (by omega))
      omega
    · omega
  exact ⟨a, hlt, c, d (by omega)⟩
theorem rn_un : ∀ r x y, x ≤ y → y < x + r → (∀ z, x ≤ z → z < y → P z = true) → P y = false → rn P r x = y := by
  intro r
  induction r with
  | zero => intro x y a b _ _; omega
  | succ r ih =>
    intro x y a b h1 h2
    rw [rn]
    by_cases c : x = y
    · rw [c, h2, if_neg (by decide)]
    · rw [h1 x (Nat.le_refl _) (by omega), if_pos rfl]
      exact ih (x + 1) y (by omega) (by omega) (fun z p q => h1 z (by omega) q) h2
theorem rn_0 {x r : Nat} (h : P x = false) : rn P r x = x := by
  cases r with
  | zero => rfl
  | succ r => rw [rn, h, if_neg (by decide)]
end RN
theorem i8 (v : Int32) (h : v = v.toInt8.toInt32) : (-128 ≤ v.toInt ∧ v.toInt < 128) := by
  rw [h, Int8.toInt_toInt32]
  have h1 := Int8.le_toInt v.toInt8
  have h2 := Int8.toInt_lt v.toInt8
  omega
theorem i8_and (v : Int32) (h : v = v.toInt8.toInt32) : (0 ≤ v → v &&& 255 = v) ∧ (v < 0 → 127 < v &&& 255) := by
  obtain ⟨h1, h2⟩ := i8 v h
  have e := pk_and v (m := 255) 8 rfl
  have ht : v.toInt = v.toBitVec.toInt := rfl
  rw [BitVec.toInt_eq_toNat_cond] at ht
  have hl := v.toBitVec.isLt
  refine ⟨fun c => ?_, fun c => ?_⟩
  · rw [Int32.le_iff_toInt_le, show (0 : Int32).toInt = 0 from rfl] at c
    rw [e, ← Int32.toInt_inj, nI_toInt (by omega)]
    split at ht <;> omega
  · rw [Int32.lt_iff_toInt_lt, show (0 : Int32).toInt = 0 from rfl] at c
    rw [e, Int32.lt_iff_toInt_lt, show (127 : Int32).toInt = 127 from rfl, nI_toInt (by omega)]
    split at ht <;> omega
def tbl (T : Nat → Int32) (L x : Nat) : Bool := decide (x < L) && decide (T x = 32)
def tle (T : Nat → Int32) (L x : Nat) : Bool := decide (x < L) && !decide (T x < 97) && !decide (122 < T x)
def tdi (T : Nat → Int32) (L x : Nat) : Bool := decide (x < L) && !decide (T x < 48) && !decide (57 < T x)
/-- behind blanks, behind letters, behind digits -/
def bl (T : Nat → Int32) (L x : Nat) : Nat := rn (tbl T L) 401 x
def el (T : Nat → Int32) (L x : Nat) : Nat := rn (tle T L) 401 x
def ed (T : Nat → Int32) (L x : Nat) : Nat := rn (tdi T L) 401 x
def isW (T : Nat → Int32) (i b y : Nat) : Bool := decide (y - b = lenTx.getD i 0) && (List.range' 0 (lenTx.getD i 0)).all (fun j => decide (T (b + j) = chTx i j))
/-- the byte, as the class asks for it -/
def bby (T : Nat → Int32) (L x : Nat) : Int32 := if x < L then T x &&& 255 else -1
/-- the model's reader stands at x, the class's at p -/
def RM (S : sSt) (T : Nat → Int32) (L x : Nat) : Prop := S.1 0 0 10 = nI x ∧ S.1 0 0 11 = nI L ∧ ∀ z, z < L → S.1 6 0 z = T z
def RC (S : sSt) (T : Nat → Int32) (L p : Nat) (wr : Int32) : Prop := S.1 1 0 2 = nI L ∧ S.1 1 0 3 = nI p ∧ S.1 1 0 4 = wr ∧ ∀ z, z < L → S.1 2 0 z = T z
def NM (S S' : sSt) : Prop := (∀ a b, ¬ (a = 0 ∧ b = 0) → S'.1 a b = S.1 a b) ∧ ∀ f, f ≠ 10 → f ≠ 12 → S'.1 0 0 f = S.1 0 0 f
def NC (S S' : sSt) : Prop := (∀ a b, ¬ (a = 1 ∧ b = 0) → S'.1 a b = S.1 a b) ∧ (∀ f, f ≠ 3 → f ≠ 4 → S'.1 1 0 f = S.1 1 0 f) ∧ S'.2 = S.2
section RD
variable {S S' S1 : sSt} {T : Nat → Int32} {L x y p b i : Nat} {wr : Int32}
theorem NM.rfl : NM S S := ⟨fun _ _ _ => Eq.refl _, fun _ _ _ => Eq.refl _⟩
theorem NM.tr (h : NM S S1) (g : NM S1 S') : NM S S' := ⟨fun a b q => (g.1 a b q).trans (h.1 a b q), fun f q1 q2 => (g.2 f q1 q2).trans (h.2 f q1 q2)⟩
theorem NC.rfl : NC S S := ⟨fun _ _ _ => Eq.refl _, fun _ _ _ => Eq.refl _, Eq.refl _⟩
theorem NC.tr (h : NC S S1) (g : NC S1 S') : NC S S' := ⟨fun a b q => (g.1 a b q).trans (h.1 a b q), fun f q1 q2 => (g.2.1 f q1 q2).trans (h.2.1 f q1 q2), g.2.2.trans h.2.2⟩
theorem NM.f {f : Nat} {v : Int32} (h : f = 10 ∨ f = 12) : NM S (uI S 0 0 f v) := ⟨fun a b q => uI_other q, fun g q1 q2 => uI_nc (by omega)⟩
theorem NC.f {f : Nat} {v : Int32} (h : f = 3 ∨ f = 4) : NC S (uI S 1 0 f v) := ⟨fun a b q => uI_other q, fun g q1 q2 => uI_nc (by omega), Eq.refl _⟩
theorem RM.n (h : RM S T L x) (g : NM S S') (h10 : S'.1 0 0 10 = nI y) : RM S' T L y := ⟨h10, (g.2 11 (by omega) (by omega)).trans h.2.1, fun z hz => by rw [g.1 6 0 (by omega)]; exact h.2.2 z hz⟩
theorem RC.n {wr' : Int32} (h : RC S T L x wr) (g : NC S S') (h3 : S'.1 1 0 3 = nI y) (h4 : S'.1 1 0 4 = wr') : RC S' T L y wr' := ⟨(g.2.1 2 (by omega) (by omega)).trans h.1, h3, h4, fun z hz => by rw [g.1 2 0 (by omega)]; exact h.2.2.2 z hz⟩
theorem tbl_lt : ∀ z, tbl T L z = true → z < L := fun z h => by unfold tbl at h; simp only [Bool.and_eq_true, decide_eq_true_eq] at h; exact h.1
theorem tle_lt : ∀ z, tle T L z = true → z < L := fun z h => by unfold tle at h; simp only [Bool.and_eq_true, decide_eq_true_eq] at h; exact h.1.1
theorem tdi_lt : ∀ z, tdi T L z = true → z < L := fun z h => by unfold tdi at h; simp only [Bool.and_eq_true, decide_eq_true_eq] at h; exact h.1.1
theorem bl_ok (hL : L ≤ 400) (hx : x ≤ L) : x ≤ bl T L x ∧ bl T L x ≤ L ∧ (∀ z, x ≤ z → z < bl T L x → tbl T L z = true) ∧ tbl T L (bl T L x) = false := rn_L tbl_lt hL hx
theorem el_ok (hL : L ≤ 400) (hx : x ≤ L) : x ≤ el T L x ∧ el T L x ≤ L ∧ (∀ z, x ≤ z → z < el T L x → tle T L z = true) ∧ tle T L (el T L x) = false := rn_L tle_lt hL hx
theorem ed_ok (hL : L ≤ 400) (hx : x ≤ L) : x ≤ ed T L x ∧ ed T L x ≤ L ∧ (∀ z, x ≤ z → z < ed T L x → tdi T L z = true) ∧ tdi T L (ed T L x) = false := rn_L tdi_lt hL hx
theorem bl_bl (hL : L ≤ 400) (hx : x ≤ L) : bl T L (bl T L x) = bl T L x := rn_0 (bl_ok hL hx).2.2.2
/-! the model -/
theorem m_isAt (h : RM S T L x) (hx : x ≤ L) (hL : L ≤ 400) {a c : Int32} {k : Int32 → sSt → Prop} : F_X12_isAt a c S k ↔ k (b2i (decide (x < L) && !decide (T x < a) && !decide (c < T x))) S := by
  rw [F_X12_isAt, h.1, h.2.1]
  by_cases q : x < L
  · have q' : ¬ nI L ≤ nI x := nI_ge q (by omega)
    simp only [q', false_implies, true_and, not_false_eq_true, true_implies]
    rw [ix_n (by omega) (by omega), h.2.2 x q]
    by_cases q1 : T x < a
    · simp [q, q1, b2i]
    · by_cases q2 : c < T x
      · simp only [q, q1, q2, decide_true, decide_false, Bool.not_false, Bool.not_true, Bool.and_false, not_false_eq_true, true_implies, false_implies, not_true_eq_false, true_and, and_true]; exact Iff.rfl
      · simp only [q, q1, q2, decide_true, decide_false, Bool.not_false, Bool.and_true, not_false_eq_true, true_implies, false_implies, true_and]; exact Iff.rfl
  · have q' : nI L ≤ nI x := nI_le (by omega) (by omega)
    simp only [q', true_implies, not_true_eq_false, false_implies, and_true, q, decide_false, Bool.false_and]; exact Iff.rfl
theorem at32 (v : Int32) : (!decide (v < 32) && !decide (32 < v)) = decide (v = 32) := by
  by_cases e : v = 32
  · rw [e]; rfl
  · rw [decide_eq_false e]
    rcases Int32.lt_or_lt_of_ne e with q | q
    · rw [decide_eq_true q]; rfl
    · rw [decide_eq_true q, Bool.not_true, Bool.and_false]
theorem m_blanks (h : RM S T L x) (hx : x ≤ L) (hL : L ≤ 400) {k : sSt → Prop} (hk : ∀ S', NM S S' → RM S' T L (bl T L x) → S'.1 0 0 12 = nI (bl T L x) → k S') : F_X12_blanks S k := by
  obtain ⟨b1, b2, b3, b4⟩ := bl_ok (T := T) hL hx
  rw [F_X12_blanks]
  suffices hh : ∀ r x' m (S1 : sSt), x' + r = bl T L x → x ≤ x' → r < m → NM S S1 → RM S1 T L x' → B_X12_blanks_0 m S1 k from hh (bl T L x - x) x fuel S (by omega) (Nat.le_refl _) (fuel_gt (by omega)) NM.rfl h
  intro r
  induction r with
  | zero =>
    intro x' m S1 he hxx hm n hR
    obtain ⟨m, rfl⟩ : ∃ z, m = z + 1 := ⟨m - 1, by omega⟩
    have e : x' = bl T L x := by omega
    subst e
    simp only [B_X12_blanks_0_s, Bb_X12_blanks_0, m_isAt hR b2 hL]
    have e0 : (decide (bl T L x < L) && !decide (T (bl T L x) < 32) && !decide (32 < T (bl T L x))) = false := by
      rw [Bool.and_assoc, at32]; exact b4
    rw [e0]
    refine ⟨fun _ => ?_, fun q => absurd rfl q⟩
    rintro S4 rfl
    refine hk _ (n.tr (NM.f (Or.inr rfl))) (hR.n (NM.f (Or.inr rfl)) ?_) ?_
    · rw [uI_nc (by omega)]; exact hR.1
    · rw [uI_at]; exact hR.1
  | succ r ih =>
    intro x' m S1 he hxx hm n hR
    obtain ⟨m, rfl⟩ : ∃ z, m = z + 1 := ⟨m - 1, by omega⟩
    have hb := b3 x' hxx (by omega)
    simp only [B_X12_blanks_0_s, Bb_X12_blanks_0, m_isAt hR (show x' ≤ L by omega) hL]
    have e0 : (decide (x' < L) && !decide (T x' < 32) && !decide (32 < T x')) = true := by
      rw [Bool.and_assoc, at32]; exact hb
    rw [e0]
    refine ⟨fun q => absurd q (by decide), fun _ => ?_⟩
    rintro S5 rfl
    rw [hR.1, nI_1]
    exact ih (x' + 1) m _ (by omega) (by omega) (by omega) (n.tr (NM.f (Or.inl rfl))) (hR.n (NM.f (Or.inl rfl)) uI_at)
theorem m_letters (h : RM S T L x) (hx : x ≤ L) (hL : L ≤ 400) {k : sSt → Prop} (hk : ∀ S', NM S S' → RM S' T L (el T L (bl T L x)) → S'.1 0 0 12 = nI (bl T L x) → k S') : F_X12_letters S k := by
  obtain ⟨b1, b2, b3, b4⟩ := bl_ok (T := T) hL hx
  obtain ⟨c1, c2, c3, c4⟩ := el_ok (T := T) hL b2
  rw [F_X12_letters]
  refine m_blanks h hx hL (fun S2 n2 h2 e2 => ?_)
  suffices hh : ∀ r x' m (S1 : sSt), x' + r = el T L (bl T L x) → bl T L x ≤ x' → r < m → NM S S1 → RM S1 T L x' → S1.1 0 0 12 = nI (bl T L x) → B_X12_letters_4 m S1 k from hh (el T L (bl T L x) - bl T L x) (bl T L x) fuel S2 (by omega) (Nat.le_refl _) (fuel_gt (by omega)) n2 h2 e2
  intro r
  induction r with
  | zero =>
    intro x' m S1 he hxx hm n hR h12
    obtain ⟨m, rfl⟩ : ∃ z, m = z + 1 := ⟨m - 1, by omega⟩
    have e : x' = el T L (bl T L x) := by omega
    subst e
    simp only [B_X12_letters_4_s, Bb_X12_letters_4, m_isAt hR c2 hL]
    have e0 : (decide (el T L (bl T L x) < L) && !decide (T (el T L (bl T L x)) < 97) && !decide (122 < T (el T L (bl T L x)))) = false := c4
    rw [e0]
    exact ⟨fun _ => hk S1 n hR h12, fun q => absurd rfl q⟩
  | succ r ih =>
    intro x' m S1 he hxx hm n hR h12
    obtain ⟨m, rfl⟩ : ∃ z, m = z + 1 := ⟨m - 1, by omega⟩
    have hb := c3 x' hxx (by omega)
    simp only [B_X12_letters_4_s, Bb_X12_letters_4, m_isAt hR (show x' ≤ L by omega) hL]
    have e0 : (decide (x' < L) && !decide (T x' < 97) && !decide (122 < T x')) = true := hb
    rw [e0]
    refine ⟨fun q => absurd q (by decide), fun _ => ?_⟩
    rintro S5 rfl
    rw [hR.1, nI_1]
    exact ih (x' + 1) m _ (by omega) (by omega) (by omega) (n.tr (NM.f (Or.inl rfl))) (hR.n (NM.f (Or.inl rfl)) uI_at) (by rw [uI_nc (by omega)]; exact h12)
theorem len_ok : ∀ i, i < 29 → 1 ≤ lenTx.getD i 0 ∧ lenTx.getD i 0 ≤ 8 := by decide
theorem m_isWord (hi : i < 29) (h : RM S T L y) (h12 : S.1 0 0 12 = nI b) (hb : b ≤ y) (hy : y ≤ L) (hL : L ≤ 400) {k : Int32 → sSt → Prop} : F_X12_isWord i S k ↔ k (b2i (isW T i b y)) S := by
  obtain ⟨l1, l8⟩ := len_ok i hi
  rw [F_X12_isWord, h.1, h12, pk_sub hb, nI_eq (by omega) (by omega)]
  unfold isW
  by_cases c : y - b = lenTx.getD i 0
  · simp only [c, not_true_eq_false, false_implies, true_and, true_implies, decide_true, Bool.true_and, B_X12_isWord_21]
    refine lp_all0 (L := fun m a j => B_X12_isWord_24 m i a j S k) (K := fun v => k (b2i v) S) (fun j => decide (T (b + j) = chTx i j)) (fuel_gt (by omega)) (fun m v => ?_) (fun m j hj => ?_) (fun m j hj => ?_)
    · simp only [B_X12_isWord_24_s, Bb_X12_isWord_24, bz_b]
      cases v
      · simp [b2i]
      · simp only [show ¬ b2i true = 0 from by decide, false_implies, true_and, not_false_eq_true, true_implies, nI_le (Nat.le_refl (lenTx.getD i 0)) (show lenTx.getD i 0 < 2147483648 by omega), not_true_eq_false, and_true]
    · simp only [B_X12_isWord_24_s, Bb_X12_isWord_24]
      simp [bz_0, b2i]
    · have hj' : ¬ nI (lenTx.getD i 0) ≤ nI j := nI_ge hj (by omega)
      simp only [B_X12_isWord_24_s, Bb_X12_isWord_24, B_X12_isWord_60, show ¬ (1 : Int32) = 0 from by decide, hj', false_implies, true_and, not_false_eq_true, true_implies, forall_eq, nI_1, h12, nI_add]
      rw [ix_n (by omega) (by omega), ix_n (by omega) (by omega), h.2.2 _ (by omega)]
      by_cases q : T (b + j) = chTx i j <;> simp [q, b2i]
  · simp only [c, not_false_eq_true, true_implies, false_implies, and_true, decide_false, Bool.false_and, B_X12_isWord_21]
    rw [show fuel = (fuel - 1) + 1 from rfl, B_X12_isWord_24_s, Bb_X12_isWord_24]
    simp [bz_0, b2i]
theorem m_passes (hi : i < 29) (h : RM S T L x) (hx : x ≤ L) (hL : L ≤ 400) {k : Int32 → sSt → Prop} (h1 : isW T i (bl T L x) (el T L (bl T L x)) = true → ∀ S', NM S S' → RM S' T L (el T L (bl T L x)) → k 1 S') (h0 : isW T i (bl T L x) (el T L (bl T L x)) = false → ∀ S', NM S S' → RM S' T L (bl T L x) → k 0 S') : F_X12_passes i S k := by
  obtain ⟨b1, b2, b3, b4⟩ := bl_ok (T := T) hL hx
  obtain ⟨c1, c2, c3, c4⟩ := el_ok (T := T) hL b2
  rw [F_X12_passes]
  refine m_letters h hx hL (fun S2 n2 h2 e2 => ?_)
  rw [m_isWord hi h2 e2 c1 c2 hL]
  cases q : isW T i (bl T L x) (el T L (bl T L x))
  · refine ⟨fun _ => ?_, fun z => absurd rfl z⟩
    rintro S6 rfl
    rw [e2]
    exact h0 q _ (n2.tr (NM.f (Or.inl rfl))) (h2.n (NM.f (Or.inl rfl)) uI_at)
  · exact ⟨fun z => absurd z (by decide), fun _ => h1 q S2 n2 h2⟩
theorem at_c (v a : Int32) : (!decide (v < a) && !decide (a < v)) = decide (v = a) := by
  by_cases e : v = a
  · rw [e]
    have : ¬ a < a := Int32.lt_irrefl
    simp [this, -Int32.not_lt]
  · rw [decide_eq_false e]
    rcases Int32.lt_or_lt_of_ne e with q | q
    · rw [decide_eq_true q]; rfl
    · rw [decide_eq_true q, Bool.not_true, Bool.and_false]
/-- a sign at x -/
def isS (T : Nat → Int32) (L x : Nat) (a : Int32) : Bool := decide (x < L) && decide (T x = a)
theorem m_sign {a : Int32} (h : RM S T L x) (hx : x ≤ L) (hL : L ≤ 400) {k : Int32 → sSt → Prop} (h1 : isS T L (bl T L x) a = true → ∀ S', NM S S' → RM S' T L (bl T L x + 1) → k 1 S') (h0 : isS T L (bl T L x) a = false → ∀ S', NM S S' → RM S' T L (bl T L x) → S'.1 0 0 12 = nI (bl T L x) → k 0 S') : F_X12_sign a S k := by
  obtain ⟨b1, b2, b3, b4⟩ := bl_ok (T := T) hL hx
  rw [F_X12_sign]
  refine m_blanks h hx hL (fun S2 n2 h2 e2 => ?_)
  rw [m_isAt h2 b2 hL, Bool.and_assoc, at_c]
  cases q : isS T L (bl T L x) a
  · have q' : (decide (bl T L x < L) && decide (T (bl T L x) = a)) = false := q
    rw [q']
    exact ⟨fun z => absurd rfl z, fun _ => h0 q S2 n2 h2 e2⟩
  · have q' : (decide (bl T L x < L) && decide (T (bl T L x) = a)) = true := q
    rw [q']
    refine ⟨fun _ => ?_, fun z => absurd z (by decide)⟩
    rintro S6 rfl
    rw [h2.1, nI_1]
    exact h1 q _ (n2.tr (NM.f (Or.inl rfl))) (h2.n (NM.f (Or.inl rfl)) uI_at)
/-! numbers -/
def dgt (T : Nat → Int32) (x : Nat) : Nat := (T x - 48).toNatClampNeg
def vlu (T : Nat → Int32) (x : Nat) : Nat → Nat
  | 0 => 0
  | n + 1 => vlu T x n * 10 + dgt T (x + n)
def nbr (T : Nat → Int32) (L p lo hi : Nat) : Option Nat := if 1 ≤ ed T L p - p ∧ ed T L p - p ≤ 3 ∧ lo ≤ vlu T p (ed T L p - p) ∧ vlu T p (ed T L p - p) ≤ hi then some (vlu T p (ed T L p - p)) else none
theorem tdi_v (h : tdi T L x = true) : x < L ∧ ∃ c, 48 ≤ c ∧ c ≤ 57 ∧ T x = nI c ∧ dgt T x = c - 48 := by
  have hx := tdi_lt _ h
  unfold tdi at h
  simp only [Bool.and_eq_true, decide_eq_true_eq, Bool.not_eq_true', decide_eq_false_iff_not] at h
  obtain ⟨⟨-, h48⟩, h57⟩ := h
  obtain ⟨c, c1, c2⟩ := nI_of2 (M := 57) (n := 57) rfl (fun z => h48 (Int32.lt_trans z (by decide))) (Int32.not_lt.mp h57)
  have c48 : 48 ≤ c := by
    rw [c2, show (48 : Int32) = nI 48 from rfl, nI_ltI (by omega) (by omega)] at h48; omega
  refine ⟨hx, c, c48, c1, c2, ?_⟩
  unfold dgt
  rw [c2, show (48 : Int32) = nI 48 from rfl, pk_sub c48, nI_clamp (by omega)]
theorem vlu_le (h : ∀ z, x ≤ z → z < x + y → tdi T L z = true) : ∀ n, n ≤ y → vlu T x n < 10 ^ n := by
  intro n
  induction n with
  | zero => intro _; exact Nat.one_pos
  | succ n ih =>
    intro hn
    have h1 := ih (by omega)
    obtain ⟨-, c, c1, c2, -, c4⟩ := tdi_v (h (x + n) (by omega) (by omega))
    rw [vlu, c4, Nat.pow_succ]
    omega
theorem m_number {lo hi : Nat} (h9 : hi ≤ 999) (hlo : lo ≤ 999) (h : RM S T L x) (hx : x ≤ L) (hL : L ≤ 400) {k : Int32 → sSt → Prop} (h1 : ∀ v, nbr T L (bl T L x) lo hi = some v → ∀ S', NM S S' → RM S' T L (ed T L (bl T L x)) → k (nI v) S') (h0 : nbr T L (bl T L x) lo hi = none → ∀ S', NM S S' → S'.1 0 0 12 = nI (bl T L x) → k (-1) S') : F_X12_number (nI lo) (nI hi) S k := by
  obtain ⟨b1, b2, b3, b4⟩ := bl_ok (T := T) hL hx
  rw [F_X12_number]
  refine m_blanks h hx hL (fun S2 n2 h2 e2 => ?_)
  obtain ⟨p, hp⟩ : ∃ p, p = bl T L x := ⟨_, rfl⟩
  rw [← hp] at h1 h0 h2 e2 b2
  obtain ⟨c1, c2, c3, c4⟩ := ed_ok (T := T) hL b2
  suffices hh : ∀ r j m (S1 : sSt), p + j + r = ed T L p → r < m → NM S S1 → RM S1 T L (p + j) → S1.1 0 0 12 = nI p → B_X12_number_6 m (nI lo) (nI hi) (nI (vlu T p (min j 3))) S1 k from hh (ed T L p - p) 0 fuel S2 (by omega) (fuel_gt (by omega)) n2 h2 e2
  intro r
  induction r with
  | zero =>
    intro j m S1 he hm n hR h12
    obtain ⟨m, rfl⟩ : ∃ z, m = z + 1 := ⟨m - 1, by omega⟩
    have e : p + j = ed T L p := by omega
    have ej : ed T L p - p = j := by omega
    simp only [B_X12_number_6_s, Bb_X12_number_6, B_X12_number_99, m_isAt hR (show p + j ≤ L by omega) hL]
    have e0 : (decide (p + j < L) && !decide (T (p + j) < 48) && !decide (57 < T (p + j))) = false := by rw [e]; exact c4
    rw [e0]
    simp only [show b2i false = (0 : Int32) from rfl, true_implies, not_true_eq_false, false_implies, and_true]
    rw [hR.1, h12, pk_sub (by omega), show p + j - p = j from by omega, nI_eq (by omega) (by omega), show (3 : Int32) = nI 3 from rfl, nI_ltI (by omega) (by omega)]
    have hv : vlu T p (min j 3) < 1000 := by
      have := vlu_le (L := L) (x := p) (y := j) (fun z q1 q2 => c3 z q1 (by omega)) (min j 3) (by omega)
      have h10 : 10 ^ (min j 3) ≤ 10 ^ 3 := Nat.pow_le_pow_right (by omega) (by omega)
      omega
    rw [nI_ltI (by omega) (by omega), nI_leI (by omega) (by omega)]
    have no : ¬ (1 ≤ j ∧ j ≤ 3 ∧ lo ≤ vlu T p j ∧ vlu T p j ≤ hi) → k (-1) S1 := fun q => h0 (by unfold nbr; rw [ej, if_neg q]) S1 n h12
    refine ⟨fun q => no (fun z => by omega), fun q => ⟨fun q2 => no (fun z => by omega), fun q2 => ?_⟩⟩
    have em : min j 3 = j := by omega
    rw [em]
    refine ⟨fun q3 => no (fun z => by omega), fun q3 => ⟨fun q4 => ?_, fun q4 => no (fun z => by omega)⟩⟩
    exact h1 _ (by unfold nbr; rw [ej, if_pos ⟨by omega, by omega, by omega, q4⟩]) S1 n (by rw [← e]; exact hR)
  | succ r ih =>
    intro j m S1 he hm n hR h12
    obtain ⟨m, rfl⟩ : ∃ z, m = z + 1 := ⟨m - 1, by omega⟩
    have hd := c3 (p + j) (by omega) (by omega)
    obtain ⟨hpl, c, d1, d2, d3, d4⟩ := tdi_v hd
    simp only [B_X12_number_6_s, Bb_X12_number_6, B_X12_number_51, m_isAt hR (show p + j ≤ L by omega) hL]
    have e0 : (decide (p + j < L) && !decide (T (p + j) < 48) && !decide (57 < T (p + j))) = true := hd
    rw [e0]
    simp only [show ¬ b2i true = (0 : Int32) from by decide, false_implies, true_and, not_false_eq_true, true_implies]
    rw [hR.1, h12, pk_sub (by omega), show p + j - p = j from by omega, show (3 : Int32) = nI 3 from rfl, nI_leI (by omega) (by omega)]
    have next : ∀ v, v = nI (vlu T p (min (j + 1) 3)) → ∀ S11, S11 = uI S1 0 0 10 (nI (p + j) + 1) → B_X12_number_6 m (nI lo) (nI hi) v S11 k := by
      rintro v rfl S11 rfl
      rw [nI_1]
      exact ih (j + 1) m _ (by omega) (by omega) (n.tr (NM.f (Or.inl rfl))) (hR.n (NM.f (Or.inl rfl)) uI_at) (by rw [uI_nc (by omega)]; exact h12)
    refine ⟨fun q => next _ (by rw [show min j 3 = min (j + 1) 3 from by omega]), fun q => ?_⟩
    rw [ix_n (by omega) (by omega), hR.2.2 _ hpl, d3]
    refine next _ ?_
    rw [show min j 3 = j from by omega, show min (j + 1) 3 = j + 1 from by omega, vlu, d4, show (10 : Int32) = nI 10 from rfl, show (48 : Int32) = nI 48 from rfl, pk_mul, nI_add, pk_sub (by omega)]
    congr 1
    omega
end RD
end PU63
