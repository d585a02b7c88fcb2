section PU6
/-! WHO IS FIRST: an order by keys, then by numbers; the model looks through slots, the class through places -/
def lxl (f g : Nat → Int) : Nat → Nat → Bool
  | _, 0 => false
  | k, r + 1 => if f k = g k then lxl f g (k + 1) r else decide (f k < g k)
def lxe (f g : Nat → Int) : Nat → Nat → Bool
  | _, 0 => true
  | k, r + 1 => decide (f k = g k) && lxe f g (k + 1) r
theorem lxl_irr (f : Nat → Int) : ∀ r k, lxl f f k r = false := by
  intro r
  induction r with
  | zero => intro k; rfl
  | succ r ih => intro k; rw [lxl, if_pos rfl]; exact ih _
theorem lxe_rfl (f : Nat → Int) : ∀ r k, lxe f f k r = true := by
  intro r
  induction r with
  | zero => intro k; rfl
  | succ r ih => intro k; rw [lxe, ih]; simp
theorem lxe_sym (f g : Nat → Int) : ∀ r k, lxe f g k r = true → lxe g f k r = true := by
  intro r
  induction r with
  | zero => intro k h; rfl
  | succ r ih =>
    intro k h
    rw [lxe] at h ⊢
    simp only [Bool.and_eq_true, decide_eq_true_eq] at h ⊢
    exact ⟨h.1.symm, ih _ h.2⟩
theorem lxe_tr (f g e : Nat → Int) : ∀ r k, lxe f g k r = true → lxe g e k r = true → lxe f e k r = true := by
  intro r
  induction r with
  | zero => intro k h h2; rfl
  | succ r ih =>
    intro k h h2
    rw [lxe] at h h2 ⊢
    simp only [Bool.and_eq_true, decide_eq_true_eq] at h h2 ⊢
    exact ⟨h.1.trans h2.1, ih _ h.2 h2.2⟩
theorem lxl_tri (f g : Nat → Int) : ∀ r k, lxl f g k r = true ∨ lxe f g k r = true ∨ lxl g f k r = true := by
  intro r
  induction r with
  | zero => intro k; exact Or.inr (Or.inl rfl)
  | succ r ih =>
    intro k
    rw [lxl, lxe, lxl]
    by_cases c : f k = g k
    · rw [if_pos c, if_pos c.symm]
      simpa [c] using ih (k + 1)
    · rw [if_neg c, if_neg (Ne.symm c)]
      rcases Int.lt_or_gt_of_ne c with q | q
      · exact Or.inl (by simpa using q)
      · exact Or.inr (Or.inr (by simpa using q))
theorem lxl_el (f g e : Nat → Int) : ∀ r k, lxe f g k r = true → lxl g e k r = true → lxl f e k r = true := by
  intro r
  induction r with
  | zero => intro k h h2; exact h2
  | succ r ih =>
    intro k h h2
    rw [lxe] at h
    rw [lxl] at h2 ⊢
    simp only [Bool.and_eq_true, decide_eq_true_eq] at h
    rw [h.1]
    by_cases c : g k = e k
    · rw [if_pos c] at h2 ⊢; exact ih _ h.2 h2
    · rw [if_neg c] at h2 ⊢; exact h2
theorem lxl_le (f g e : Nat → Int) : ∀ r k, lxl f g k r = true → lxe g e k r = true → lxl f e k r = true := by
  intro r
  induction r with
  | zero => intro k h h2; exact h
  | succ r ih =>
    intro k h h2
    rw [lxe] at h2
    rw [lxl] at h ⊢
    simp only [Bool.and_eq_true, decide_eq_true_eq] at h2
    rw [← h2.1]
    by_cases c : f k = g k
    · rw [if_pos c] at h ⊢; exact ih _ h h2.2
    · rw [if_neg c] at h ⊢; exact h
theorem lxl_tr (f g e : Nat → Int) : ∀ r k, lxl f g k r = true → lxl g e k r = true → lxl f e k r = true := by
  intro r
  induction r with
  | zero => intro k h h2; exact h
  | succ r ih =>
    intro k h h2
    rw [lxl] at h h2 ⊢
    by_cases c : f k = g k
    · rw [if_pos c] at h
      by_cases c2 : g k = e k
      · rw [if_pos c2] at h2
        rw [if_pos (c.trans c2)]; exact ih _ h h2
      · rw [if_neg c2] at h2
        rw [if_neg (by rw [c]; exact c2), c]; exact h2
    · rw [if_neg c] at h
      simp only [decide_eq_true_eq] at h
      by_cases c2 : g k = e k
      · rw [if_neg (by rw [← c2]; exact c), ← c2]; simpa using h
      · rw [if_neg c2] at h2
        simp only [decide_eq_true_eq] at h2
        rw [if_neg (by omega)]; simp only [decide_eq_true_eq]; omega
/-- the k-th key of a job, less being ahead -/
def kf (w : Wd) (s j k : Nat) : Int := if w (1149 + 27 * s + (19 + 2 * k) + 1) = 0 then (col w j s (w (1149 + 27 * s + (19 + 2 * k)))).toInt else -(col w j s (w (1149 + 27 * s + (19 + 2 * k)))).toInt
def ahk (w : Wd) (a b s : Nat) : Nat → Nat → Bool
  | _, 0 => false
  | k, r + 1 => if col w a s (w (1149 + 27 * s + (19 + 2 * k))) = col w b s (w (1149 + 27 * s + (19 + 2 * k))) then ahk w a b s (k + 1) r else if w (1149 + 27 * s + (19 + 2 * k) + 1) = 0 then !decide (col w b s (w (1149 + 27 * s + (19 + 2 * k))) ≤ col w a s (w (1149 + 27 * s + (19 + 2 * k)))) else !decide (col w a s (w (1149 + 27 * s + (19 + 2 * k))) ≤ col w b s (w (1149 + 27 * s + (19 + 2 * k))))
theorem kf_eq {w : Wd} {s a b k : Nat} : (kf w s a k = kf w s b k) ↔ col w a s (w (1149 + 27 * s + (19 + 2 * k))) = col w b s (w (1149 + 27 * s + (19 + 2 * k))) := by
  rw [show (col w a s (w (1149 + 27 * s + (19 + 2 * k))) = col w b s (w (1149 + 27 * s + (19 + 2 * k)))) ↔ _ from Int32.toInt_inj.symm]
  unfold kf
  split <;> omega
theorem ahk_lx {w : Wd} {s a b : Nat} : ∀ r k, ahk w a b s k r = lxl (kf w s a) (kf w s b) k r := by
  intro r
  induction r with
  | zero => intro k; rfl
  | succ r ih =>
    intro k
    rw [ahk, lxl, ih]
    by_cases c : col w a s (w (1149 + 27 * s + (19 + 2 * k))) = col w b s (w (1149 + 27 * s + (19 + 2 * k)))
    · rw [if_pos c, if_pos (kf_eq.mpr c)]
    · rw [if_neg c, if_neg (fun h => c (kf_eq.mp h))]
      unfold kf
      by_cases d : w (1149 + 27 * s + (19 + 2 * k) + 1) = 0
      · simp only [d, if_true, Int32.le_iff_toInt_le]
        rw [Bool.eq_iff_iff]; simp only [Bool.not_eq_true', decide_eq_false_iff_not, decide_eq_true_eq]; omega
      · simp only [d, if_false, Int32.le_iff_toInt_le]
        rw [Bool.eq_iff_iff]; simp only [Bool.not_eq_true', decide_eq_false_iff_not, decide_eq_true_eq]; omega
theorem ahd_lx {w : Wd} {s a b : Nat} : ∀ r k, ahd w a b s k r = (lxl (kf w s a) (kf w s b) k r || (lxe (kf w s a) (kf w s b) k r && decide (num w a < num w b))) := by
  intro r
  induction r with
  | zero =>
    intro k
    rw [ahd, lxl, lxe]
    by_cases h : num w a < num w b
    · have h2 : ¬ (num w b ≤ num w a) := Int32.not_le.mpr h
      simp [h, h2, -Int32.not_le, -Int32.not_lt]
    · have h2 : num w b ≤ num w a := Int32.not_lt.mp h
      simp [h, h2, -Int32.not_le, -Int32.not_lt]
  | succ r ih =>
    intro k
    rw [ahd, lxl, lxe, ih]
    by_cases c : col w a s (w (1149 + 27 * s + (19 + 2 * k))) = col w b s (w (1149 + 27 * s + (19 + 2 * k)))
    · rw [if_pos c, if_pos (kf_eq.mpr c)]
      simp [kf_eq.mpr c]
    · rw [if_neg c, if_neg (fun h => c (kf_eq.mp h))]
      have c2 : ¬ kf w s a k = kf w s b k := fun h => c (kf_eq.mp h)
      simp only [c2, decide_false, Bool.false_and, Bool.or_false]
      have c3 := c
      rw [← Int32.toInt_inj] at c3
      unfold kf
      by_cases d : w (1149 + 27 * s + (19 + 2 * k) + 1) = 0
      · simp only [d, if_true, Int32.le_iff_toInt_le]
        rw [Bool.eq_iff_iff, decide_eq_true_eq, decide_eq_true_eq, show b2i (decide True) = 1 from rfl, b2i_1]
        simp only [Bool.not_eq_true', decide_eq_false_iff_not]; omega
      · simp only [d, if_false, Int32.le_iff_toInt_le]
        rw [Bool.eq_iff_iff, decide_eq_true_eq, decide_eq_true_eq, show b2i (decide False) = 0 from rfl, b2i_0]
        simp only [Bool.not_eq_false', decide_eq_true_eq]; omega
/-- the best of those that P takes, by A -/
def Bst (P : Nat → Bool) (A : Nat → Nat → Bool) (o : Option Nat) (n : Nat) : Prop := match o with | none => ∀ j, j < n → P j = false | some b => b < n ∧ P b = true ∧ ∀ j, j < n → P j = true → j ≠ b → A b j = true
theorem Bst.one {P : Nat → Bool} {A : Nat → Nat → Bool} {n : Nat} (hA : ∀ a b, a < n → b < n → P a = true → P b = true → A a b = true → A b a = true → False) {o o' : Option Nat} (h : Bst P A o n) (h' : Bst P A o' n) : o = o' := by
  cases o with
  | none =>
    cases o' with
    | none => rfl
    | some b => have := h b h'.1; rw [h'.2.1] at this; exact absurd this (by decide)
  | some a =>
    cases o' with
    | none => have := h' a h.1; rw [h.2.1] at this; exact absurd this (by decide)
    | some b =>
      by_cases c : a = b
      · rw [c]
      · exact (hA a b h.1 h'.1 h.2.1 h'.2.1 (h.2.2 b h'.1 h'.2.1 (Ne.symm c)) (h'.2.2 a h.1 h.2.1 c)).elim
theorem bst_Bst {P : Nat → Bool} {A : Nat → Nat → Bool} {n : Nat} (htr : ∀ a b c, a < n → b < n → c < n → P a = true → P b = true → P c = true → A a b = true → A b c = true → A a c = true) (htot : ∀ a b, a < n → b < n → P a = true → P b = true → a ≠ b → A a b = true ∨ A b a = true) :
    ∀ r i o, i + r = n → Bst P A o i → Bst P A (bst P A o i r) n := by
  intro r
  induction r with
  | zero => intro i o hi h; rw [bst]; have : i = n := by omega
            rw [← this]; exact h
  | succ r ih =>
    intro i o hi h
    rw [bst_s]
    refine ih (i + 1) _ (by omega) ?_
    cases hp : P i
    · rw [Bool.false_and, Bool.cond_false]
      cases o with
      | none => intro j hj; by_cases c : j = i
                · rw [c]; exact hp
                · exact h j (by omega)
      | some b => exact ⟨by have := h.1; omega, h.2.1, fun j hj hpj hne => h.2.2 j (by
          by_cases c : j = i
          · rw [c, hp] at hpj; exact absurd hpj (by decide)
          · omega) hpj hne⟩
    · simp only [Bool.true_and]
      cases o with
      | none =>
        simp only [btr, Bool.cond_true]
        refine ⟨by omega, hp, fun j hj hpj hne => ?_⟩
        have := h j (by omega)
        rw [this] at hpj; exact absurd hpj (by decide)
      | some b =>
        simp only [btr]
        have hb := h.1
        cases ha : A i b
        · rw [Bool.cond_false]
          refine ⟨by omega, h.2.1, fun j hj hpj hne => ?_⟩
          by_cases c : j = i
          · rw [c]
            rcases htot i b (by omega) (by omega) hp h.2.1 (by omega) with q | q
            · rw [ha] at q; exact absurd q (by decide)
            · exact q
          · exact h.2.2 j (by omega) hpj hne
        · rw [Bool.cond_true]
          refine ⟨by omega, hp, fun j hj hpj hne => ?_⟩
          by_cases c : j = b
          · rw [c]; exact ha
          · exact htr i b j (by omega) (by omega) (by omega) hp h.2.1 hpj ha (h.2.2 j (by omega) hpj c)
section FST
variable {w : Wd} {ns np cm nl : Nat}
def cnd (w : Wd) (s tc j : Nat) : Bool := mayc w j s && asked w j s tc
def fsto (w : Wd) (s tc kc : Nat) : Option Nat := bst (cnd w s tc) (fun a b => ahd w a b s 0 kc) none 0 24
theorem cnd_sees {s tc j : Nat} (h : cnd w s tc j = true) : sees w j (nI s) = true := by
  simp only [cnd, mayc, stt, Bool.and_eq_true] at h
  exact h.1.1.1.1.1.1
theorem ahd_tr {s kc a b c : Nat} (h1 : ahd w a b s 0 kc = true) (h2 : ahd w b c s 0 kc = true) : ahd w a c s 0 kc = true := by
  rw [ahd_lx] at h1 h2 ⊢
  simp only [Bool.or_eq_true, Bool.and_eq_true, decide_eq_true_eq] at h1 h2 ⊢
  rcases h1 with h1 | ⟨h1, n1⟩ <;> rcases h2 with h2 | ⟨h2, n2⟩
  · exact Or.inl (lxl_tr _ _ _ _ _ h1 h2)
  · exact Or.inl (lxl_le _ _ _ _ _ h1 h2)
  · exact Or.inl (lxl_el _ _ _ _ _ h1 h2)
  · exact Or.inr ⟨lxe_tr _ _ _ _ _ h1 h2, Int32.lt_trans n1 n2⟩
theorem ahd_irr {s kc a : Nat} : ahd w a a s 0 kc = false := by
  rw [ahd_lx, lxl_irr]
  simp
theorem ahd_tot {s kc a b : Nat} (hn : num w a ≠ num w b) : ahd w a b s 0 kc = true ∨ ahd w b a s 0 kc = true := by
  rw [ahd_lx, ahd_lx]
  simp only [Bool.or_eq_true, Bool.and_eq_true, decide_eq_true_eq]
  rcases lxl_tri (kf w s a) (kf w s b) kc 0 with q | q | q
  · exact Or.inl (Or.inl q)
  · rcases Int32.lt_or_lt_of_ne hn with n | n
    · exact Or.inl (Or.inr ⟨q, n⟩)
    · exact Or.inr (Or.inr ⟨lxe_sym _ _ _ _ q, n⟩)
  · exact Or.inr (Or.inl q)
theorem ahd_asy {s kc a b : Nat} (h1 : ahd w a b s 0 kc = true) (h2 : ahd w b a s 0 kc = true) : False := by
  have := ahd_tr h1 h2
  rw [ahd_irr] at this
  exact absurd this (by decide)
theorem num_ne (hW : WF w ns np cm nl) {a b : Nat} (ha : a < 24) (hb : b < 24) (hl : lie w a = true) (h : a ≠ b) : num w a ≠ num w b := fun e => h (hW.one a b ha hb hl e)
theorem fsto_Bst (hW : WF w ns np cm nl) (s tc kc : Nat) : Bst (cnd w s tc) (fun a b => ahd w a b s 0 kc) (fsto w s tc kc) 24 := by
  have h := bst_Bst (P := cnd w s tc) (A := fun a b => ahd w a b s 0 kc) (n := 24) (fun _ _ _ _ _ _ _ _ _ => ahd_tr) (fun a b ha hb pa _ hne => ahd_tot (num_ne hW ha hb (sees_lie (cnd_sees pa)) hne)) 24 0 none (by omega) (fun j hj => absurd hj (Nat.not_lt_zero j))
  unfold fsto
  exact h
end FST
section MFF
variable {S : sSt} {ns np cm nl : Nat}
theorem m_firstFor (hW : WF (S.1 1 0) ns np cm nl) {s : Nat} (hs4 : s < 4) {tc kc : Nat} (ht4 : tc ≤ 4) (htc : S.1 1 0 (1149 + 27 * s + 5) = nI tc) (hk4 : kc ≤ 4) (hkc : S.1 1 0 (1149 + 27 * s + 18) = nI kc) {k : Int32 → sSt → Prop} : F_X12_firstFor (nI s) S k ↔ k (oI (fsto (S.1 1 0) s tc kc)) S := by
  rw [F_X12_firstFor]
  unfold fsto
  suffices h : ∀ r i m o, i + r = 24 → r < m → (∀ b, o = some b → b < 24 ∧ sees (S.1 1 0) b (nI s) = true) → (B_X12_firstFor_4 m (nI s) (oI o) (nI i) S k ↔ k (oI (bst (cnd (S.1 1 0) s tc) (fun a b => ahd (S.1 1 0) a b s 0 kc) o i r)) S) from h 24 0 fuel none (by omega) (fuel_gt (by omega)) (fun b hb => by cases hb)
  intro r
  induction r with
  | zero =>
    intro i m o hi hm ho
    obtain ⟨m, rfl⟩ : ∃ q, m = q + 1 := ⟨m - 1, by omega⟩
    have : i = 24 := by omega
    subst this
    simp only [B_X12_firstFor_4_s, Bb_X12_firstFor_4, bst_0]
    simp [show (24 : Int32) ≤ nI 24 from by decide]
  | succ r ih =>
    intro i m o hi hm ho
    obtain ⟨m, rfl⟩ : ∃ q, m = q + 1 := ⟨m - 1, by omega⟩
    have hi4 : i < 24 := by omega
    have h : ¬ (24 : Int32) ≤ nI i := nI_ge (b := 24) hi4 (by omega)
    have hnm : ¬ nI i = -1 := ni_m1 (by omega)
    simp only [B_X12_firstFor_4_s, Bb_X12_firstFor_4, B_X12_firstFor_45, B_X12_firstFor_43, h, false_implies, true_and, not_false_eq_true, true_implies, forall_eq, nI_1, m_mayBeClaimed hW hi4, b2i_0, Bool.not_eq_false, bst_s]
    cases c1 : mayc (S.1 1 0) i s
    · simp only [true_implies, false_implies, and_true, Bool.false_eq_true, cnd, c1, Bool.false_and, Bool.cond_false]
      exact ih (i + 1) m o (by omega) (by omega) ho
    · have hsi : sees (S.1 1 0) i (nI s) = true := by
        simp only [mayc, stt, Bool.and_eq_true] at c1
        exact c1.1.1.1.1.1
      simp only [true_implies, false_implies, true_and, Bool.true_eq_false, m_isAsAsked hi4 hs4 hsi ht4 htc, b2i_0, Bool.not_eq_false, cnd, c1, Bool.true_and]
      cases c2 : asked (S.1 1 0) i s tc
      · simp only [true_implies, false_implies, and_true, Bool.false_eq_true, Bool.false_and, Bool.cond_false]
        exact ih (i + 1) m o (by omega) (by omega) ho
      · simp only [true_implies, false_implies, true_and, Bool.true_eq_false, Bool.true_and]
        cases o with
        | none =>
          simp only [btr, oI, true_implies, not_true_eq_false, false_implies, and_true, Bool.cond_true]
          exact ih (i + 1) m (some i) (by omega) (by omega) (fun b hb => by cases hb; exact ⟨hi4, hsi⟩)
        | some b =>
          obtain ⟨hb, hsb⟩ := ho b rfl
          simp only [btr, oI, ni_m1 (show b < 2147483648 by omega), false_implies, not_false_eq_true, true_implies, true_and, m_isAhead hi4 hb hs4 hsi hsb hk4 hkc, b2i_0, Bool.not_eq_false]
          cases c3 : ahd (S.1 1 0) i b s 0 kc
          · simp only [true_implies, false_implies, and_true, Bool.false_eq_true, Bool.cond_false]
            exact ih (i + 1) m (some b) (by omega) (by omega) ho
          · simp only [true_implies, false_implies, true_and, Bool.true_eq_false, Bool.cond_true]
            exact ih (i + 1) m (some i) (by omega) (by omega) (fun b hb => by cases hb; exact ⟨hi4, hsi⟩)
end MFF
end PU6
