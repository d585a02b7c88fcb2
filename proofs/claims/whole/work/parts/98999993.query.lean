section PU69
/-! CALL query -/
def pq26 (T : Nat → Int32) (L z : Nat) : Option (List (Nat × Nat)) × Nat := if wrd T L 26 z = true then (if wrd T L 27 (el T L (bl T L z)) = true then pks T L 4 (el T L (bl T L (el T L (bl T L z)))) else (none, bl T L (el T L (bl T L z)))) else (some [], bl T L z)
def pqe (T : Nat → Int32) (L z : Nat) : Option (List (Nat × Nat)) × Nat := match pq26 T L z with
  | (none, b) => (none, b)
  | (some kl, u) => if bl T L u = L then (some kl, L) else (none, bl T L u)
def pq19 (T : Nat → Int32) (L y : Nat) : Option (List (Nat × Nat × Nat)) × Nat := if wrd T L 19 y = true then pts T L 4 (el T L (bl T L y)) else (some [], bl T L y)
def pqy (T : Nat → Int32) (L : Nat) : Option (Nat × List (Nat × Nat × Nat) × List (Nat × Nat)) × Nat := match pbeh T L 18 1 6 0 with
  | (none, b) => (none, b)
  | (some a, y) => match pq19 T L y with
    | (none, b) => (none, b)
    | (some tl, z) => match pqe T L z with
      | (none, b) => (none, b)
      | (some kl, u) => (some (a, tl, kl), u)
section PL
variable {S S' S1 : sSt} {T : Nat → Int32} {L x y p b : Nat} {wr : Int32}
theorem x_q49 (h : RC S T L (bl T L x) (-1)) (hx : x ≤ L) (hL : L ≤ 400) {k : Int32 → sSt → Prop} (h1 : bl T L x = L → k 1 S) (h0 : bl T L x ≠ L → ∀ S', NC S S' → S'.1 1 0 4 = nI (bl T L x) → k 0 S') : B_X3_readFrom_49 S k := by
  have b2 := (bl_ok (T := T) hL hx).2.1
  rw [B_X3_readFrom_49, F_X8_needEnd, x_isAtEnd h b2 hL]
  by_cases c : bl T L x = L
  · rw [decide_eq_true c]
    refine ⟨fun _ => ?_, fun z => absurd z (by decide)⟩
    exact x_isRight (fun _ => bz_1.mpr (h1 c)) (fun z => absurd h.2.2.1 z)
  · rw [decide_eq_false c]
    refine ⟨fun z => absurd rfl z, fun _ => x_refuse h (fun S' n' r' => ?_)⟩
    exact x_isRight (fun z => absurd z (r'.ne b2 hL)) (fun _ => bz_0.mpr (h0 c S' n' r'.2.2.1))
theorem x_q49w (h : RC S T L p (nI y)) (hp : p ≤ L) (hy : y ≤ L) (hL : L ≤ 400) {k : Int32 → sSt → Prop} (h0 : k 0 S) : B_X3_readFrom_49 S k := by
  have w := h.ne hy hL
  have fin : F_X8_isRight S (fun r17 S18 => bz r17 (k r17 S18)) := x_isRight (fun z => absurd z w) (fun _ => bz_0.mpr h0)
  rw [B_X3_readFrom_49, F_X8_needEnd, x_isAtEnd h hp hL]
  exact ⟨fun _ => fin, fun _ => x_refuse0 w fin⟩
/-- what the draft says of the terms, of the keys -/
def TDc (S : sSt) (q : Nat) (l : List (Nat × Nat × Nat)) : Prop := S.1 3 q 6 = nI l.length ∧ ∀ m, m < l.length → S.1 4 q m = nI (tget l m).1 ∧ S.1 5 q m = sgx (tget l m).2.1 ∧ S.1 6 q m = nI (tget l m).2.2
def KDc (S : sSt) (q : Nat) (l : List (Nat × Nat)) : Prop := S.1 3 q 7 = nI l.length ∧ ∀ m, m < l.length → S.1 7 q m = nI (kget l m).1 ∧ S.1 8 q m = nI (kget l m).2
def TDm (d : Nat → Int32) (l : List (Nat × Nat × Nat)) : Prop := d 1 = nI l.length ∧ l.length ≤ 4 ∧ ∀ m, m < l.length → d (2 + 3 * m) = nI (tget l m).1 ∧ d (2 + 3 * m + 1) = nI (tget l m).2.1 ∧ d (2 + 3 * m + 2) = nI (tget l m).2.2 ∧ (tget l m).2.1 ≤ 3
def KDm (d : Nat → Int32) (l : List (Nat × Nat)) : Prop := d 14 = nI l.length ∧ l.length ≤ 4 ∧ ∀ m, m < l.length → d (15 + 2 * m) = nI (kget l m).1 ∧ d (15 + 2 * m + 1) = nI (kget l m).2 ∧ (kget l m).2 ≤ 1
theorem qr_of {d : Nat → Int32} {a : Nat} {tl : List (Nat × Nat × Nat)} {kl : List (Nat × Nat)} (h5 : S.1 3 0 5 = nI a) (d0 : d 0 = nI a) (t1 : TDc S 0 tl) (t2 : TDm d tl) (k1 : KDc S 0 kl) (k2 : KDm d kl) : QR S 0 d 0 := by
  refine ⟨by rw [h5]; exact d0.symm, by rw [t1.1]; exact t2.1.symm, by rw [k1.1]; exact k2.1.symm, fun m hm hl => ?_, fun m hm hl => ?_⟩
  · simp only [Nat.zero_add] at hl ⊢
    have ll := t2.2.1
    rw [t2.1, nI_ltI (by omega) (by omega)] at hl
    obtain ⟨a1, a2, a3⟩ := t1.2 m hl
    obtain ⟨b1, b2, b3, b4⟩ := t2.2.2 m hl
    refine ⟨by rw [a1, b1], ?_, by rw [a3, b3]⟩
    rw [a2, b2]
    unfold sgc sgx
    rcases (show (tget tl m).2.1 = 0 ∨ (tget tl m).2.1 = 1 ∨ (tget tl m).2.1 = 2 ∨ (tget tl m).2.1 = 3 by omega) with z | z | z | z <;> rw [z]
    · exact Or.inl ⟨rfl, rfl⟩
    · exact Or.inr (Or.inl ⟨rfl, rfl⟩)
    · exact Or.inr (Or.inr (Or.inl ⟨rfl, rfl⟩))
    · exact Or.inr (Or.inr (Or.inr ⟨rfl, rfl⟩))
  · simp only [Nat.zero_add] at hl ⊢
    have ll := k2.2.1
    rw [k2.1, nI_ltI (by omega) (by omega)] at hl
    obtain ⟨a1, a2⟩ := k1.2 m hl
    obtain ⟨b1, b2, b3⟩ := k2.2.2 m hl
    refine ⟨by rw [a1, b1], by rw [a2, b2], ?_⟩
    rw [a2]
    rcases (show (kget kl m).2 = 0 ∨ (kget kl m).2 = 1 by omega) with z | z <;> rw [z]
    · exact Or.inl rfl
    · exact Or.inr rfl
theorem x_q35 (hT : byt T) (hL : L ≤ 400) (hx : x ≤ L) (h : RC S T L (bl T L x) (-1)) (h7 : S.1 3 0 7 = 0) {k : Int32 → sSt → Prop} (h1 : ∀ kl u, pqe T L x = (some kl, u) → ∀ S', ND S S' → S'.1 1 0 4 = -1 → KDc S' 0 kl → (∀ a, 3 ≤ a → a ≤ 8 → ∀ z, (a = 3 ∧ z ≠ 7) ∨ (4 ≤ a ∧ a ≤ 6) → S'.1 a 0 z = S.1 a 0 z) → k 1 S') (h0 : ∀ y, pqe T L x = (none, y) → y ≤ L → ∀ S', ND S S' → S'.1 1 0 4 = nI y → k 0 S') : B_X3_readFrom_35 0 S k := by
  have c2 := el_bl_le (T := T) hL hx
  have b2 := (bl_ok (T := T) hL hx).2.1
  rw [B_X3_readFrom_35]
  refine x_word hT (by omega) h hx hL (fun q S1 n1 r1 => ⟨fun z => absurd z (by decide), fun _ => ?_⟩) (fun q => ⟨fun _ => ?_, fun z => absurd rfl z⟩)
  · rw [F_X3_readKeys]
    refine x_word hT (by omega) r1 c2 hL (fun q2 S2 n2 r2 => ⟨fun _ => ?_, fun z => absurd z (by decide)⟩) (fun q2 => ⟨fun z => absurd rfl z, fun _ => ?_⟩)
    · rw [B_X3_readKeys_13]
      have e26 : pq26 T L x = pks T L 4 (el T L (bl T L (el T L (bl T L x)))) := by unfold pq26; rw [if_pos q, if_pos q2]
      refine x_keys hT hL 4 0 _ fuel S2 (by omega) (fuel_gt (by omega)) (el_bl_le hL c2) r2 (fun l y e hy S' n' r' o' d' c' => ?_) (fun y e hy S' p n' hp r' => ?_)
      · have nn := n1.d.tr (n2.d.tr n')
        refine x_q49 r' hy hL (fun hb => ?_) (fun hb S3 n3 e3 => ?_)
        · refine h1 l L (by unfold pqe; rw [e26, e]; simp only []; rw [if_pos hb]) S' nn r'.2.2.1 ⟨by rw [c', Nat.zero_add], fun m hm => by have := d' m hm; rw [Nat.zero_add] at this; exact this⟩ (fun a a3 a8 z hz => ?_)
          rw [o' a a3 a8 z (by omega), n2.1 a 0 (by omega), n1.1 a 0 (by omega)]
        · exact h0 _ (by unfold pqe; rw [e26, e]; simp only []; rw [if_neg hb]) (bl_ok (T := T) hL hy).2.1 S3 (nn.tr n3.d) e3
      · exact x_q49w r' hp hy hL (h0 y (by unfold pqe; rw [e26, e]) hy S' (n1.d.tr (n2.d.tr n')) r'.2.2.1)
    · refine x_refuse r1 (fun S2 n2 r2 => ?_)
      rw [B_X3_readKeys_13]
      have hb := (bl_ok (T := T) hL c2).2.1
      have e26 : pq26 T L x = (none, bl T L (el T L (bl T L x))) := by unfold pq26; rw [if_pos q, if_neg (by rw [q2]; decide)]
      have w := r2.ne hb hL
      rw [show fuel = (fuel - 1) + 1 from rfl, B_X3_readKeys_15_s, Bb_X3_readKeys_15]
      refine ⟨fun z => absurd z (by decide), fun _ => x_col0 w ?_⟩
      rw [show (0 : Int32) = nI 0 from rfl, ix_n (by omega) (by omega)]
      rintro S11 rfl
      have r11 : RC (uI S2 7 0 0 7) T L (bl T L (el T L (bl T L x))) (nI (bl T L (el T L (bl T L x)))) := r2.i (by omega)
      refine x_takeWord0 (r11.ne hb hL) ?_
      rintro S15 rfl S16 rfl
      have r16 : RC (uI (uI (uI S2 7 0 0 7) 8 0 0 (vp_nar .boolean 0)) 3 0 7 (nI 0 + 1)) T L (bl T L (el T L (bl T L x))) (nI (bl T L (el T L (bl T L x)))) := (r11.i (by omega)).i (by omega)
      refine x_takeSign0 (r16.ne hb hL) ⟨fun z => absurd rfl z, fun _ => ?_⟩
      exact x_q49w r16 hb hb hL (h0 _ (by unfold pqe; rw [e26]) hb _ (n1.d.tr (n2.d.tr ((ND.i (by omega)).tr ((ND.i (by omega)).tr (ND.i (by omega)))))) r16.2.2.1)
  · have e26 : pq26 T L x = (some [], bl T L x) := by unfold pq26; rw [if_neg (by rw [q]; decide)]
    have bb := bl_bl (T := T) hL hx
    refine x_q49 h hx hL (fun hb => ?_) (fun hb S3 n3 e3 => ?_)
    · exact h1 [] L (by unfold pqe; rw [e26]; simp only []; rw [bb, if_pos hb]) S ND.rfl h.2.2.1 ⟨h7, fun m hm => absurd hm (Nat.not_lt_zero m)⟩ (fun _ _ _ _ _ => rfl)
    · exact h0 (bl T L x) (by unfold pqe; rw [e26]; simp only []; rw [bb, if_neg hb]) b2 S3 n3.d e3
/-- after something wrong: to the end -/
theorem x_q35w (hL : L ≤ 400) (hp : p ≤ L) (hy : y ≤ L) (h : RC S T L p (nI y)) {k : Int32 → sSt → Prop} (h0 : k 0 S) : B_X3_readFrom_35 0 S k := by
  rw [B_X3_readFrom_35]
  exact x_takeWord0 (h.ne hy hL) ⟨fun _ => x_q49w h hp hy hL h0, fun z => absurd rfl z⟩
theorem uI_uI {k i j : Nat} {v v' : Int32} : uI (uI S k i j v) k i j v' = uI S k i j v' := by
  unfold uI
  refine Prod.ext (funext fun a => funext fun b => funext fun c => ?_) rfl
  by_cases e : a = k ∧ b = i ∧ c = j <;> simp [e]
theorem x_start (hL : L ≤ 400) (h2 : S.1 1 0 2 = nI L) (ht : ∀ z, z < L → S.1 2 0 z = T z) {k : sSt → Prop} (hk : ∀ S', NC S S' → RC S' T L (bl T L 0) (-1) → k S') : F_X8_startReading S k := by
  rw [F_X8_startReading]
  rintro A4 e4
  have n4 : NC S A4 := by rw [e4]; exact NC.f (Or.inr rfl)
  have n5 : NC S (uI A4 1 0 3 (nI 0)) := n4.tr (NC.f (Or.inl rfl))
  have r5 : RC (uI A4 1 0 3 (nI 0)) T L 0 (-1) := ⟨by rw [n5.2.1 2 (by omega) (by omega)]; exact h2, uI_at, by rw [uI_nc (by omega), e4, uI_at], fun z hz => by rw [n5.1 2 0 (by omega)]; exact ht z hz⟩
  have := x_moveTo (k := fun S3 => k S3) r5 (Nat.zero_le L) hL (fun S' n' r' => hk S' (n5.tr n') r')
  rw [F_X8_moveTo, uI_uI] at this
  rw [show (0 : Int32) = nI 0 from rfl, F_X8_moveTo]
  exact this
theorem x_readFrom (hT : byt T) (hL : L ≤ 400) (h2 : S.1 1 0 2 = nI L) (ht : ∀ z, z < L → S.1 2 0 z = T z) {k : Int32 → sSt → Prop} (h1 : ∀ a tl kl u, pqy T L = (some (a, tl, kl), u) → 1 ≤ a → a ≤ 6 → ∀ S', ND S S' → S'.1 1 0 4 = -1 → S'.1 3 0 5 = nI a → TDc S' 0 tl → KDc S' 0 kl → k 1 S') (h0 : ∀ y, pqy T L = (none, y) → y ≤ L → ∀ S', ND S S' → S'.1 1 0 4 = nI y → k 0 S') : F_X3_readFrom 0 S k := by
  rw [F_X3_readFrom, F_X3_clear]
  rintro A1 e1 A2 e2 A3 e3
  have nA : ND S A3 := by
    rw [e3, e2, e1]
    exact (ND.i (by omega)).tr ((ND.i (by omega)).tr (ND.i (by omega)))
  have a6 : A3.1 3 0 6 = 0 := by rw [e3, uI_nc (by omega), e2, uI_at]
  have a7 : A3.1 3 0 7 = 0 := by rw [e3, uI_at]
  refine x_start (T := T) hL (by rw [nA.2.1 2 (by omega) (by omega)]; exact h2) (fun z hz => by rw [nA.1 2 0 (by omega) (by omega)]; exact ht z hz) (fun A4 n4 r4 => ?_)
  refine x_beh (lo := 1) (hi := 6) hT (by omega) (by omega) (by omega) r4 (Nat.zero_le L) hL (fun a y eb l1 l6 hy A6 n6 r6 => ?_) (fun y eb hy A6 n6 r6 => ?_)
  · rintro A7 rfl
    have r7 : RC (uI A6 3 0 5 (nI a)) T L (bl T L y) (-1) := r6.i (by omega)
    have n7 : ND S (uI A6 3 0 5 (nI a)) := nA.tr (n4.d.tr (n6.d.tr (ND.i (by omega))))
    have c5 : (uI A6 3 0 5 (nI a)).1 3 0 5 = nI a := uI_at
    have c6 : (uI A6 3 0 5 (nI a)).1 3 0 6 = 0 := by rw [uI_nc (by omega), n6.1 3 0 (by omega), n4.1 3 0 (by omega)]; exact a6
    have c7 : (uI A6 3 0 5 (nI a)).1 3 0 7 = 0 := by rw [uI_nc (by omega), n6.1 3 0 (by omega), n4.1 3 0 (by omega)]; exact a7
    refine x_word hT (by omega) r7 hy hL (fun q A8 n8 r8 => ⟨fun z => absurd z (by decide), fun _ => ?_⟩) (fun q => ⟨fun _ => ?_, fun z => absurd rfl z⟩)
    · rw [F_X3_readTerms]
      have e19 : pq19 T L y = pts T L 4 (el T L (bl T L y)) := by unfold pq19; rw [if_pos q]
      refine x_terms hT hL 4 0 _ fuel A8 (by omega) (fuel_gt (by omega)) (el_bl_le hL hy) r8 (fun tl z e hz A9 n9 r9 o9 d9 c9 => ?_) (fun z e hz A9 p n9 hp r9 => ?_)
      · have b5 : A9.1 3 0 5 = nI a := by rw [o9 3 (by omega) (by omega) 5 (by omega), n8.1 3 0 (by omega)]; exact c5
        have b7 : A9.1 3 0 7 = 0 := by rw [o9 3 (by omega) (by omega) 7 (by omega), n8.1 3 0 (by omega)]; exact c7
        refine x_q35 hT hL hz r9 b7 (fun kl u e2 A10 n10 w10 k10 o10 => ?_) (fun v e2 hv A10 n10 w10 => ?_)
        · refine h1 a tl kl u (by unfold pqy; rw [eb]; simp only []; rw [e19, e]; simp only []; rw [e2]) l1 l6 A10 (n7.tr (n8.d.tr (n9.tr n10))) w10 (by rw [o10 3 (by omega) (by omega) 5 (by omega)]; exact b5) ⟨by rw [o10 3 (by omega) (by omega) 6 (by omega), c9, Nat.zero_add], fun m hm => ?_⟩ k10
          have := d9 m hm
          rw [Nat.zero_add] at this
          rw [o10 4 (by omega) (by omega) m (by omega), o10 5 (by omega) (by omega) m (by omega), o10 6 (by omega) (by omega) m (by omega)]
          exact this
        · exact h0 v (by unfold pqy; rw [eb]; simp only []; rw [e19, e]; simp only []; rw [e2]) hv A10 (n7.tr (n8.d.tr (n9.tr n10))) w10
      · exact x_q35w hL hp hz r9 (h0 z (by unfold pqy; rw [eb]; simp only []; rw [e19, e]) hz A9 (n7.tr (n8.d.tr n9)) r9.2.2.1)
    · have e19 : pq19 T L y = (some [], bl T L y) := by unfold pq19; rw [if_neg (by rw [q]; decide)]
      have bb := bl_bl (T := T) hL hy
      refine x_q35 hT hL (bl_ok (T := T) hL hy).2.1 (by rw [bb]; exact r7) c7 (fun kl u e2 A10 n10 w10 k10 o10 => ?_) (fun v e2 hv A10 n10 w10 => ?_)
      · exact h1 a [] kl u (by unfold pqy; rw [eb]; simp only []; rw [e19]; simp only []; rw [e2]) l1 l6 A10 (n7.tr n10) w10 (by rw [o10 3 (by omega) (by omega) 5 (by omega)]; exact c5) ⟨by rw [o10 3 (by omega) (by omega) 6 (by omega)]; exact c6, fun m hm => absurd hm (Nat.not_lt_zero m)⟩ k10
      · exact h0 v (by unfold pqy; rw [eb]; simp only []; rw [e19]; simp only []; rw [e2]) hv A10 (n7.tr n10) w10
  · rintro A7 rfl
    have r7 : RC (uI A6 3 0 5 (-1)) T L y (nI y) := r6.i (by omega)
    refine x_takeWord0 (r7.ne hy hL) ⟨fun _ => ?_, fun z => absurd rfl z⟩
    exact x_q35w hL hy hy r7 (h0 y (by unfold pqy; rw [eb]) hy _ (nA.tr (n4.d.tr (n6.d.tr (ND.i (by omega))))) r7.2.2.1)
/-! the model -/
theorem m_q83 (h : RM S T L x) (hx : x ≤ L) (hL : L ≤ 400) {k : Int32 → sSt → Prop} (h1 : bl T L x = L → ∀ S', NM S S' → k 1 S') (h0 : bl T L x ≠ L → ∀ S', NM S S' → S'.1 0 0 12 = nI (bl T L x) → k 0 S') : B_X12_readQuery_83 S k := by
  have b2 := (bl_ok (T := T) hL hx).2.1
  rw [B_X12_readQuery_83]
  refine m_blanks h hx hL (fun S' n' r' e' => ?_)
  rw [r'.1, r'.2.1, nI_eq (by omega) (by omega)]
  exact ⟨fun q => h0 q S' n' e', fun q => h1 q S' n'⟩
theorem m_q65 (hL : L ≤ 400) (hx : x ≤ L) (h : RM S T L x) (h14 : S.1 5 0 14 = 0) {k : Int32 → sSt → Prop} (h1 : ∀ kl u, pqe T L x = (some kl, u) → ∀ S', NMd S S' → KDm (S'.1 5 0) kl → (∀ z, z < 14 → S'.1 5 0 z = S.1 5 0 z) → k 1 S') (h0 : ∀ y, pqe T L x = (none, y) → ∀ S', NMd S S' → S'.1 0 0 12 = nI y → k 0 S') : B_X12_readQuery_65 S k := by
  have c2 := el_bl_le (T := T) hL hx
  rw [B_X12_readQuery_65]
  refine m_pass (by omega) h hx hL (fun q S1 n1 r1 => ⟨fun z => absurd z (by decide), fun _ => ?_⟩) (fun q S1 n1 r1 => ⟨fun _ => ?_, fun z => absurd rfl z⟩)
  · rw [F_X12_readKeys]
    have hb := (bl_ok (T := T) hL c2).2.1
    obtain ⟨w1, w2, -, -⟩ := el_ok (T := T) hL hb
    refine m_letters r1 c2 hL (fun S2 n2 r2 e2 => ?_)
    rw [m_isWord (by omega) r2 e2 w1 w2 hL]
    cases q2 : isW T 27 (bl T L (el T L (bl T L x))) (el T L (bl T L (el T L (bl T L x))))
    · have e26 : pq26 T L x = (none, bl T L (el T L (bl T L x))) := by unfold pq26; rw [if_pos q, if_neg (by unfold wrd; rw [q2]; decide)]
      refine ⟨fun z => absurd rfl z, fun _ => ⟨fun z => absurd rfl z, fun _ => ?_⟩⟩
      exact h0 _ (by unfold pqe; rw [e26]) S2 (n1.d.tr n2.d) e2
    · have e26 : pq26 T L x = pks T L 4 (el T L (bl T L (el T L (bl T L x)))) := by unfold pq26; rw [if_pos q, if_pos (by unfold wrd; exact q2)]
      refine ⟨fun _ => ?_, fun z => absurd z (by decide)⟩
      rw [show fuel = (fuel - 1) + 1 from rfl]
      refine m_keys hL 4 0 _ (fuel - 1) S2 (by omega) (by decide) w2 r2 (by rw [n2.1 5 0 (by omega), n1.1 5 0 (by omega)]; exact h14) (fun l y e hy S' n' r' o' d' c' l4 s' => ⟨fun _ => ?_, fun z => absurd z (by decide)⟩) (fun y e S' n' e' => ⟨fun z => absurd rfl z, fun _ => ?_⟩)
      · have nn := n1.d.tr (n2.d.tr n')
        refine m_q83 r' hy hL (fun hbL S3 n3 => ?_) (fun hbL S3 n3 e3 => ?_)
        · refine h1 l L (by unfold pqe; rw [e26, e]; simp only []; rw [if_pos hbL]) S3 (nn.tr n3.d) ?_ (fun z hz => by rw [n3.1 5 0 (by omega), o' z (by omega) (by omega), n2.1 5 0 (by omega), n1.1 5 0 (by omega)])
          rw [n3.1 5 0 (by omega)]
          refine ⟨by rw [c', Nat.zero_add], by omega, fun m hm => ?_⟩
          have := d' m hm
          rw [Nat.zero_add] at this
          exact ⟨this.1, this.2, s' m hm⟩
        · exact h0 _ (by unfold pqe; rw [e26, e]; simp only []; rw [if_neg hbL]) S3 (nn.tr n3.d) e3
      · exact h0 y (by unfold pqe; rw [e26, e]) S' (n1.d.tr (n2.d.tr n')) e'
  · have e26 : pq26 T L x = (some [], bl T L x) := by unfold pq26; rw [if_neg (by rw [q]; decide)]
    have bb := bl_bl (T := T) hL hx
    refine m_q83 r1 (bl_ok (T := T) hL hx).2.1 hL (fun hbL S3 n3 => ?_) (fun hbL S3 n3 e3 => ?_)
    · refine h1 [] L (by unfold pqe; rw [e26]; simp only []; rw [if_pos hbL]) S3 (n1.d.tr n3.d) ?_ (fun z hz => by rw [n3.1 5 0 (by omega), n1.1 5 0 (by omega)])
      rw [n3.1 5 0 (by omega), n1.1 5 0 (by omega)]
      exact ⟨h14, by show 0 ≤ 4; omega, fun m hm => absurd hm (Nat.not_lt_zero m)⟩
    · exact h0 _ (by unfold pqe; rw [e26]; simp only []; rw [if_neg hbL]) S3 (n1.d.tr n3.d) e3
theorem m_readQuery (hL : L ≤ 400) (h : RM S T L 0) {k : Int32 → sSt → Prop} (h1 : ∀ a tl kl u, pqy T L = (some (a, tl, kl), u) → ∀ S', NMd S S' → S'.1 5 0 0 = nI a → TDm (S'.1 5 0) tl → KDm (S'.1 5 0) kl → k 1 S') (h0 : ∀ y, pqy T L = (none, y) → ∀ S', NMd S S' → S'.1 0 0 12 = nI y → k 0 S') : F_X12_readQuery S k := by
  rw [F_X12_readQuery]
  suffices hh : ∀ r i m (S1 : sSt), i + r = 23 → r < m → NMd S S1 → RM S1 T L 0 → (∀ z, z < i → S1.1 5 0 z = 0) → B_X12_readQuery_2 m (nI i) S1 k from hh 23 0 fuel S (by omega) (fuel_gt (by omega)) NMd.rfl h (fun z hz => absurd hz (Nat.not_lt_zero z))
  intro r
  induction r with
  | succ r ih =>
    intro i m S1 hi hm n hR hz
    obtain ⟨m, rfl⟩ : ∃ z, m = z + 1 := ⟨m - 1, by omega⟩
    simp only [B_X12_readQuery_2_s, Bb_X12_readQuery_2]
    refine ⟨fun q => absurd q (nI_ge (b := 23) (show i < 23 by omega) (by omega)), fun _ => ?_⟩
    rw [ix_n (by omega) (by omega)]
    rintro S22 rfl x23 rfl
    rw [nI_1]
    refine ih (i + 1) m _ (by omega) (by omega) (n.tr NMd.i) hR.i (fun z hz' => ?_)
    by_cases e : z = i
    · rw [e, uI_at]
    · rw [uI_nc (by omega)]; exact hz z (by omega)
  | zero =>
    intro i m S1 hi hm n hR hz
    obtain ⟨m, rfl⟩ : ∃ z, m = z + 1 := ⟨m - 1, by omega⟩
    have e : i = 23 := by omega
    subst e
    simp only [B_X12_readQuery_2_s, Bb_X12_readQuery_2]
    refine ⟨fun _ => ?_, fun q => absurd (show (23 : Int32) ≤ nI 23 from by decide) q⟩
    refine m_beh (lo := 1) (hi := 6) (by omega) (by omega) (by omega) hR (Nat.zero_le L) hL (fun a y eb l1 l6 hy S3 n3 r3 => ?_) (fun y eb S3 n3 e3 => ?_)
    · rintro S4 e4
      have n4 : NMd S S4 := by rw [e4]; exact n.tr (n3.d.tr NMd.i)
      have r4 : RM S4 T L y := by rw [e4]; exact r3.i
      have c0 : S4.1 5 0 0 = nI a := by rw [e4, uI_at]
      have cz : ∀ z, z ≠ 0 → z < 23 → S4.1 5 0 z = 0 := fun z z0 z23 => by rw [e4, uI_nc (by omega), n3.1 5 0 (by omega)]; exact hz z z23
      rw [c0]
      refine ⟨fun _ => ?_, fun q => absurd (nI_pos' (by omega)) q⟩
      refine m_pass (by omega) r4 hy hL (fun q S7 n7 r7 => ⟨fun z => absurd z (by decide), fun _ => ?_⟩) (fun q S7 n7 r7 => ⟨fun _ => ?_, fun z => absurd rfl z⟩)
      · rw [F_X12_readTerms, show fuel = (fuel - 1) + 1 from rfl]
        have e19 : pq19 T L y = pts T L 4 (el T L (bl T L y)) := by unfold pq19; rw [if_pos q]
        refine m_terms hL 4 0 _ (fuel - 1) S7 (by omega) (by decide) (el_bl_le hL hy) r7 (by rw [n7.1 5 0 (by omega)]; exact cz 1 (by omega) (by omega)) (fun tl z e hz' S9 n9 r9 o9 d9 c9 l4 s9 => ⟨fun _ => ?_, fun w => absurd w (by decide)⟩) (fun z e S9 n9 e9 => ⟨fun w => absurd rfl w, fun _ => ?_⟩)
        · refine m_q65 hL hz' r9 (by rw [o9 14 (by omega) (by omega), n7.1 5 0 (by omega)]; exact cz 14 (by omega) (by omega)) (fun kl u e2 S10 n10 k10 o10 => ?_) (fun v e2 S10 n10 e10 => ?_)
          · refine h1 a tl kl u (by unfold pqy; rw [eb]; simp only []; rw [e19, e]; simp only []; rw [e2]) S10 (n4.tr (n7.d.tr (n9.tr n10))) (by rw [o10 0 (by omega), o9 0 (by omega) (by omega), n7.1 5 0 (by omega)]; exact c0) ⟨by rw [o10 1 (by omega), c9, Nat.zero_add], by omega, fun m hm => ?_⟩ k10
            have := d9 m hm
            rw [Nat.zero_add] at this
            rw [o10 _ (by omega), o10 _ (by omega), o10 _ (by omega)]
            exact ⟨this.1, this.2.1, this.2.2, s9 m hm⟩
          · exact h0 v (by unfold pqy; rw [eb]; simp only []; rw [e19, e]; simp only []; rw [e2]) S10 (n4.tr (n7.d.tr (n9.tr n10))) e10
        · exact h0 z (by unfold pqy; rw [eb]; simp only []; rw [e19, e]) S9 (n4.tr (n7.d.tr n9)) e9
      · have e19 : pq19 T L y = (some [], bl T L y) := by unfold pq19; rw [if_neg (by rw [q]; decide)]
        refine m_q65 hL (bl_ok (T := T) hL hy).2.1 r7 (by rw [n7.1 5 0 (by omega)]; exact cz 14 (by omega) (by omega)) (fun kl u e2 S10 n10 k10 o10 => ?_) (fun v e2 S10 n10 e10 => ?_)
        · refine h1 a [] kl u (by unfold pqy; rw [eb]; simp only []; rw [e19]; simp only []; rw [e2]) S10 (n4.tr (n7.d.tr n10)) (by rw [o10 0 (by omega), n7.1 5 0 (by omega)]; exact c0) ⟨by rw [o10 1 (by omega), n7.1 5 0 (by omega)]; exact cz 1 (by omega) (by omega), by show 0 ≤ 4; omega, fun m hm => absurd hm (Nat.not_lt_zero m)⟩ k10
        · exact h0 v (by unfold pqy; rw [eb]; simp only []; rw [e19]; simp only []; rw [e2]) S10 (n4.tr (n7.d.tr n10)) e10
    · rintro S4 rfl
      rw [uI_at]
      refine ⟨fun q => absurd q (by decide), fun _ => h0 y (by unfold pqy; rw [eb]) _ (n.tr (n3.d.tr NMd.i)) ?_⟩
      rw [uI_other (by omega)]; exact e3
end PL
end PU69
