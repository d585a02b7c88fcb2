section PU3
/-! THE MODEL: columns, terms, keys, the first to claim -/
section MRF
variable {S : sSt} {j : Nat}
theorem m_mayBeClaimed {ns np cm nl : Nat} (hW : WF (S.1 1 0) ns np cm nl) (hj : j < 24) {s : Nat} {k : Int32 → sSt → Prop} : F_X12_mayBeClaimed (nI j) (nI s) S k ↔ k (b2i (mayc (S.1 1 0) j s)) S := by
  rw [F_X12_mayBeClaimed, m_seen hj, m_isState hj]
  unfold mayc
  cases h1 : stt (S.1 1 0) j (nI s) 0
  · simp [b2i]
  · have hs : sees (S.1 1 0) j (nI s) = true := by
      unfold stt at h1; simp only [Bool.and_eq_true] at h1; exact h1.1
    have hv := ver_lt (w := S.1 1 0) (s := nI s) hj
    obtain ⟨⟨g, hg6, hg⟩, -⟩ := hW.vok hj (sees_lie hs)
    have hgt : (grp (S.1 1 0) j).toNatClampNeg = g := by unfold grp; rw [hg]; exact nI_clamp (by omega)
    simp only [b2i_t, show ¬ ((1 : Int32) = 0) from by decide, false_implies, not_false_eq_true, true_implies, true_and, m_isOthers hj, b2i_0, Bool.not_eq_false]
    cases h2 : oth (S.1 1 0) j (nI s)
    · simp only [true_implies, seeI, hs, if_true, na_5]
      rw [ix_n (by omega) (by omega)]
      simp only [m_hasLesser hj, m_isFull hj hg hg6, b2i_0, Bool.not_eq_false, hgt]
      by_cases h3 : S.1 1 0 3 < S.1 1 0 (ver (S.1 1 0) j (nI s) + 5) <;> cases h4 : lesser (S.1 1 0) j (nI s) <;> cases h5 : full (S.1 1 0) g (nI s) <;> simp [h3, b2i]
    · simp [b2i]
theorem m_columnOf (hj : j < 24) {s : Nat} (hs4 : s < 4) (hs : sees (S.1 1 0) j (nI s) = true) {c : Int32} {k : Int32 → sSt → Prop} : F_X12_columnOf (nI j) (nI s) c S k ↔ k (col (S.1 1 0) j s c) S := by
  have hv := ver_lt (w := S.1 1 0) (s := nI s) hj
  rw [F_X12_columnOf, m_seen hj]
  simp only [seeI, hs, if_true, m_numberOf hj, na_0, na_1, na_2, na_4, na_5, na_6, m_sessAt1]
  simp only [ix_n (show ver (S.1 1 0) j (nI s) < 10421 by omega) (by omega), ix_n (show ver (S.1 1 0) j (nI s) + 1 < 10421 by omega) (by omega), ix_n (show ver (S.1 1 0) j (nI s) + 2 < 10421 by omega) (by omega), ix_n (show ver (S.1 1 0) j (nI s) + 4 < 10421 by omega) (by omega), ix_n (show ver (S.1 1 0) j (nI s) + 5 < 10421 by omega) (by omega), ix_n (show ver (S.1 1 0) j (nI s) + 6 < 10421 by omega) (by omega), ix_n (show 1149 + 27 * s + 1 < 10421 by omega) (by omega), cdi]
  unfold col
  repeat' split
  all_goals rfl
theorem sa_t (s k : Nat) : (1149 + (27 * nI s)) + (6 + (3 * nI k)) = nI (1149 + 27 * s + (6 + 3 * k)) := by
  show (nI 1149 + (nI 27 * nI s)) + (nI 6 + (nI 3 * nI k)) = _
  rw [pk_mul, pk_mul, nI_add, nI_add, nI_add]
theorem sa_k (s k : Nat) : (1149 + (27 * nI s)) + (19 + (2 * nI k)) = nI (1149 + 27 * s + (19 + 2 * k)) := by
  show (nI 1149 + (nI 27 * nI s)) + (nI 19 + (nI 2 * nI k)) = _
  rw [pk_mul, pk_mul, nI_add, nI_add, nI_add]
theorem m_isAsAsked (hj : j < 24) {s : Nat} (hs4 : s < 4) (hs : sees (S.1 1 0) j (nI s) = true) {tc : Nat} (ht4 : tc ≤ 4) (htc : S.1 1 0 (1149 + 27 * s + 5) = nI tc) {k : Int32 → sSt → Prop} : F_X12_isAsAsked (nI j) (nI s) S k ↔ k (b2i (asked (S.1 1 0) j s tc)) S := by
  rw [F_X12_isAsAsked]
  refine lp_all0 (L := fun m b i => B_X12_isAsAsked_5 m (nI j) (nI s) b i S k) (K := fun b => k (b2i b) S) (N := tc) _ (fuel_gt (by omega)) (fun m b => ?_) (fun m i hi => ?_) (fun m i hi => ?_)
  · simp only [B_X12_isAsAsked_5_s, Bb_X12_isAsAsked_5, m_sessAt5, bz_b]
    rw [ix_n (by omega) (by omega), htc]
    simp [nI_leI (show tc < 2147483648 by omega) (show tc < 2147483648 by omega)]
  · have h : ¬ nI tc ≤ nI i := nI_ge hi (by omega)
    simp only [B_X12_isAsAsked_5_s, Bb_X12_isAsAsked_5, m_sessAt5, bz_0]
    rw [ix_n (by omega) (by omega), htc]
    simp [h, b2i]
  · have h : ¬ nI tc ≤ nI i := nI_ge hi (by omega)
    simp only [B_X12_isAsAsked_5_s, Bb_X12_isAsAsked_5, m_sessAt5]
    rw [ix_n (by omega) (by omega), htc]
    simp only [h, false_implies, true_and, not_false_eq_true, true_implies, show ¬ ((1 : Int32) = 0) from by decide]
    rw [F_X12_sessionAt, sa_t, ix_n (by omega) (by omega), m_columnOf hj hs4 hs]
    simp only [na_2, na_1]
    rw [ix_n (by omega) (by omega)]
    simp only [forall_eq]
    rw [ix_n (by omega) (by omega)]
    simp only [forall_eq, B_X12_isAsAsked_148, nI_1]
    unfold asked1 sgn
    generalize col (S.1 1 0) j s (S.1 1 0 (1149 + 27 * s + (6 + 3 * i))) = v
    generalize S.1 1 0 (1149 + 27 * s + (6 + 3 * i) + 2) = n
    generalize S.1 1 0 (1149 + 27 * s + (6 + 3 * i) + 1) = x
    by_cases c0 : x = 0
    · by_cases c : v = n <;> simp [c0, c, b2i]
    by_cases c1 : x = 1
    · by_cases c : v = n <;> simp [c1, c, b2i]
    by_cases c2 : x = 2
    · by_cases c : n ≤ v <;> simp [c2, c, b2i, -Int32.not_le, -Int32.not_lt]
    · by_cases c : v ≤ n <;> simp [c0, c1, c2, c, b2i, -Int32.not_le, -Int32.not_lt]
theorem m_isAhead {a b : Nat} (ha : a < 24) (hb : b < 24) {s : Nat} (hs4 : s < 4) (hsa : sees (S.1 1 0) a (nI s) = true) (hsb : sees (S.1 1 0) b (nI s) = true) {kc : Nat} (ht4 : kc ≤ 4) (htc : S.1 1 0 (1149 + 27 * s + 18) = nI kc) {k : Int32 → sSt → Prop} : F_X12_isAhead (nI a) (nI b) (nI s) S k ↔ k (b2i (ahd (S.1 1 0) a b s 0 kc)) S := by
  rw [F_X12_isAhead]
  suffices h : ∀ r i m, i + r = kc → r < m → (B_X12_isAhead_3 m (nI a) (nI b) (nI s) (nI i) S k ↔ k (b2i (ahd (S.1 1 0) a b s i r)) S) from h kc 0 fuel (by omega) (fuel_gt (by omega))
  intro r
  induction r with
  | zero =>
    intro i m hi hm
    obtain ⟨m, rfl⟩ : ∃ q, m = q + 1 := ⟨m - 1, by omega⟩
    have : i = kc := by omega
    subst this
    simp only [B_X12_isAhead_3_s, Bb_X12_isAhead_3, m_sessAt18, m_numberOf ha, m_numberOf hb]
    rw [ix_n (by omega) (by omega), htc]
    unfold ahd
    by_cases h2 : num (S.1 1 0) b ≤ num (S.1 1 0) a <;> simp [h2, b2i, nI_leI (show i < 2147483648 by omega) (show i < 2147483648 by omega)]
  | succ r ih =>
    intro i m hi hm
    obtain ⟨m, rfl⟩ : ∃ q, m = q + 1 := ⟨m - 1, by omega⟩
    have h : ¬ nI kc ≤ nI i := nI_ge (by omega) (by omega)
    simp only [B_X12_isAhead_3_s, Bb_X12_isAhead_3, m_sessAt18]
    rw [ix_n (by omega) (by omega), htc]
    simp only [h, false_implies, true_and, not_false_eq_true, true_implies]
    rw [F_X12_sessionAt, sa_k, ix_n (by omega) (by omega), m_columnOf ha hs4 hsa, m_columnOf hb hs4 hsb]
    simp only [forall_eq, nI_1, ih (i + 1) m (by omega) (by omega), B_X12_isAhead_81, B_X12_isAhead_98, na_1]
    simp only [ix_n (show 1149 + 27 * s + (19 + 2 * i) + 1 < 10421 by omega) (show 10421 ≤ 2147483648 by omega)]
    rw [ahd]
    by_cases h1 : col (S.1 1 0) a s (S.1 1 0 (1149 + 27 * s + (19 + 2 * i))) = col (S.1 1 0) b s (S.1 1 0 (1149 + 27 * s + (19 + 2 * i))) <;> by_cases h2 : col (S.1 1 0) b s (S.1 1 0 (1149 + 27 * s + (19 + 2 * i))) ≤ col (S.1 1 0) a s (S.1 1 0 (1149 + 27 * s + (19 + 2 * i))) <;> by_cases h3 : S.1 1 0 (1149 + 27 * s + (19 + 2 * i) + 1) = 0 <;> simp [h1, h2, h3, b2i, -Int32.not_le, -Int32.not_lt]
end MRF
end PU3
