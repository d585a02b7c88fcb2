section PU22
/-! CAUSES' BITS (the rows b_.., s_l are the kit's, pasted) -/
def bt (x : Int32) (i : Nat) : Bool := x.toBitVec.getLsbD i
theorem b_ext {x y : Int32} (h : ∀ i, i < 32 → bt x i = bt y i) : x = y := Int32.toBitVec_inj.mp (BitVec.eq_of_getLsbD_eq (fun i hi => h i hi))
theorem b_or (x y : Int32) (i : Nat) : bt (x ||| y) i = (bt x i || bt y i) := by unfold bt; rw [Int32.toBitVec_or, BitVec.getLsbD_or]
theorem b_and (x y : Int32) (i : Nat) : bt (x &&& y) i = (bt x i && bt y i) := by unfold bt; rw [Int32.toBitVec_and, BitVec.getLsbD_and]
theorem b_big {x : Int32} {i : Nat} (h : 32 ≤ i) : bt x i = false := BitVec.getLsbD_of_ge _ _ h
theorem b_0 (i : Nat) : bt 0 i = false := BitVec.getLsbD_zero
theorem s_l : ∀ n, n < 32 → ((nI n &&& 31).toBitVec.smod 32).toNat = n := by decide +kernel
theorem b_shl (n : Nat) (hn : n < 32) (x : Int32) {i : Nat} (hi : i < 32) : bt (x <<< (nI n &&& 31)) i = (decide (n ≤ i) && bt x (i - n)) := by
  unfold bt
  rw [Int32.toBitVec_shiftLeft]
  show (x.toBitVec <<< ((nI n &&& 31).toBitVec.smod 32).toNat).getLsbD i = _
  rw [s_l n hn, BitVec.getLsbD_shiftLeft]
  rcases Nat.lt_or_ge i n with h | h
  · simp [h, Nat.not_le.mpr h]
  · simp [hi, h, Nat.not_lt.mpr h]
theorem b_sshr (n : Nat) (hn : n < 32) (x : Int32) {i : Nat} (hi : i < 32) : bt (x >>> (nI n &&& 31)) i = if n + i < 32 then bt x (n + i) else bt x 31 := by
  unfold bt
  rw [Int32.toBitVec_shiftRight]
  show (x.toBitVec.sshiftRight ((nI n &&& 31).toBitVec.smod 32).toNat).getLsbD i = _
  rw [s_l n hn, BitVec.getLsbD_sshiftRight, BitVec.msb_eq_getLsbD_last]
  simp [hi]
theorem b_7 (i : Nat) : bt 7 i = decide (i < 3) := by
  rcases Nat.lt_or_ge i 32 with h | h
  · exact (by decide +kernel : ∀ i, i < 32 → bt 7 i = decide (i < 3)) i h
  · rw [b_big h, decide_eq_false (by omega)]
theorem b_all (i : Nat) : bt 134217727 i = decide (i < 27) := by
  rcases Nat.lt_or_ge i 32 with h | h
  · exact (by decide +kernel : ∀ i, i < 32 → bt 134217727 i = decide (i < 27)) i h
  · rw [b_big h, decide_eq_false (by omega)]
theorem b_c7 : ∀ c, c < 7 → ∀ i, i < 32 → 3 ≤ i → bt (nI c) i = false := by decide +kernel
theorem cz_b (x : Int32) {k : Nat} (hk : k < 9) {i : Nat} (hi : i < 32) : bt (cz x k) i = (decide (i < 3) && bt x (3 * k + i)) := by
  unfold cz
  rw [b_and, b_7, show (nI k * 3 : Int32) = nI (3 * k) from by rw [show (3 : Int32) = nI 3 from rfl, pk_mul, Nat.mul_comm], b_sshr (3 * k) (by omega) x hi]
  by_cases c : i < 3
  · rw [if_pos (by omega), Bool.and_comm]
  · simp [c]
theorem cz_push0 (x : Int32) {c : Nat} (hc : c < 7) : cz (((x <<< ((3 : Int32) &&& 31)) ||| nI c) &&& 134217727) 0 = nI c := by
  refine b_ext fun i hi => ?_
  rw [cz_b _ (by omega) hi, b_and, b_or, b_all, show (3 : Int32) = nI 3 from rfl]
  by_cases q : i < 3
  · rw [b_shl 3 (by omega) x (by omega)]
    rw [Nat.mul_zero, Nat.zero_add]
    simp [q, show ¬ 3 ≤ i from by omega, show i < 27 from by omega]
  · rw [b_c7 c hc i hi (by omega)]
    simp [q]
theorem cz_push (x : Int32) {c k : Nat} (hc : c < 7) (hk : k < 8) : cz (((x <<< ((3 : Int32) &&& 31)) ||| nI c) &&& 134217727) (k + 1) = cz x k := by
  refine b_ext fun i hi => ?_
  rw [cz_b _ (by omega) hi, cz_b _ (by omega) hi, b_and, b_or, b_all, show (3 : Int32) = nI 3 from rfl]
  by_cases q : i < 3
  · rw [b_shl 3 (by omega) x (by omega), b_c7 c hc _ (by omega) (by omega)]
    simp [q, show 3 ≤ 3 * (k + 1) + i from by omega, show 3 * (k + 1) + i < 27 from by omega]
    congr 1; omega
  · simp [q]
/-! WAIT -/
def wtb (B C T : Nat) : Nat := if C < B * 2 ^ (T - 1) then C else B * 2 ^ (T - 1)
def wtv (w : Wd) (B C T : Nat) (x : Int32) : Int32 := nI (wtb B C T) + (((7 * x) + (3 * nI T)) - ((7 * x) + (3 * nI T)) / (w 12 + 1) * (w 12 + 1))
section WT
variable {S : sSt} {t : Nat} {w : Wd}
theorem pow_le {B T k : Nat} (h : k ≤ T) : B * 2 ^ (k - 1) ≤ B * 2 ^ (T - 1) := Nat.mul_le_mul_left _ (Nat.pow_le_pow_right (by omega) (by omega))
theorem pow_s {B k : Nat} (h : 1 ≤ k) : B * 2 ^ (k - 1) * 2 = B * 2 ^ (k + 1 - 1) := by
  rw [Nat.mul_assoc, ← Nat.pow_succ]; congr 2; omega
theorem pow_9 {B T : Nat} (hB : B ≤ 9) (hT : T ≤ 9) : B * 2 ^ (T - 1) ≤ 2304 := by
  have h1 : 2 ^ (T - 1) ≤ 2 ^ 8 := Nat.pow_le_pow_right (by omega) (by omega)
  calc B * 2 ^ (T - 1) ≤ 9 * 2 ^ 8 := Nat.mul_le_mul hB h1
    _ = 2304 := by decide
theorem wtb_le {B C T : Nat} (hC : C ≤ 99) : wtb B C T ≤ 99 := by unfold wtb; split <;> omega
theorem jit_ne (hW : ∃ c, c ≤ 9 ∧ w 12 = nI c) : ¬ (w 12 + 1 = 0) := by
  obtain ⟨j, j1, j2⟩ := hW
  rw [j2, nI_1]; exact nI_ne0 (by omega) (by omega)
theorem m_waitOf (hW : ∃ c, c ≤ 9 ∧ w 12 = nI c) {B C T : Nat} (hB : B ≤ 9) (hC : C ≤ 99) (hT : T ≤ 9) (eB : w 10 = nI B) (eC : w 11 = nI C) {x : Int32} {k : Int32 → sSt → Prop} : F_X12_waitOf x (nI T) (sw S w) k ↔ k (wtv w B C T x) (sw S w) := by
  have p9 := pow_9 hB hT
  rw [F_X12_waitOf, forall_eq, sw_w, eB]
  have fin : B_X12_waitOf_34 x (nI T) (nI (B * 2 ^ (T - 1))) (sw S w) k ↔ k (wtv w B C T x) (sw S w) := by
    rw [B_X12_waitOf_34, sw_w, eC]
    have : (if nI (B * 2 ^ (T - 1)) < nI C then nI (B * 2 ^ (T - 1)) else nI C) = nI (wtb B C T) := by
      unfold wtb
      by_cases c : B * 2 ^ (T - 1) < C
      · rw [if_pos ((nI_ltI (by omega) (by omega)).mpr c), if_neg (by omega)]
      · rw [if_neg (fun q => c ((nI_ltI (by omega) (by omega)).mp q))]
        by_cases c2 : C < B * 2 ^ (T - 1)
        · rw [if_pos c2]
        · rw [if_neg c2]; congr 1; omega
    rw [this]
    exact ⟨fun q => q.2, fun q => ⟨jit_ne hW, q⟩⟩
  suffices h : ∀ r q m, q + r = (if 1 ≤ T then T else 1) → r < m → 1 ≤ q → (B_X12_waitOf_11 m x (nI T) (nI (B * 2 ^ (q - 1))) (nI q) (sw S w) k ↔ k (wtv w B C T x) (sw S w)) by
    have := h ((if 1 ≤ T then T else 1) - 1) 1 fuel (by split <;> omega) (fuel_gt (by split <;> omega)) (by omega)
    rw [show B * 2 ^ (1 - 1) = B from by simp] at this
    exact this
  intro r
  induction r with
  | zero =>
    intro q m hq hm h1
    obtain ⟨m, rfl⟩ : ∃ y, m = y + 1 := ⟨m - 1, by omega⟩
    have hTq : T ≤ q := by split at hq <;> omega
    have e : B * 2 ^ (q - 1) = B * 2 ^ (T - 1) := by
      split at hq
      · rw [show q = T from by omega]
      · rw [show q = 1 from by omega, show T = 0 from by omega]
    simp only [B_X12_waitOf_11_s, Bb_X12_waitOf_11, (nI_leI (show T < 2147483648 by omega) (show q < 2147483648 by split at hq <;> omega)).mpr hTq, true_implies, not_true_eq_false, false_implies, and_true, e, fin]
  | succ r ih =>
    intro q m hq hm h1
    obtain ⟨m, rfl⟩ : ∃ y, m = y + 1 := ⟨m - 1, by omega⟩
    have hTq : q < T := by split at hq <;> omega
    have h : ¬ nI T ≤ nI q := nI_ge hTq (by omega)
    have hle := pow_le (B := B) (T := T) (k := q) (by omega)
    have h2 : ¬ (1000000 : Int32) ≤ nI (B * 2 ^ (q - 1)) := nI_ge (b := 1000000) (by omega) (by omega)
    simp only [B_X12_waitOf_11_s, Bb_X12_waitOf_11, h, h2, false_implies, true_and, not_false_eq_true, true_implies, forall_eq, nI_1]
    rw [show (nI (B * 2 ^ (q - 1)) * 2 : Int32) = nI (B * 2 ^ (q + 1 - 1)) from by rw [show (2 : Int32) = nI 2 from rfl, pk_mul, pow_s h1]]
    exact ih (q + 1) m (by omega) (by omega) (by omega)
theorem x_waitOf (hW : ∃ c, c ≤ 9 ∧ w 12 = nI c) {B C T : Nat} (hB : B ≤ 9) (hC : C ≤ 99) (hT : T ≤ 9) (e1 : S.1 18 t 1 = nI B) (e2 : S.1 18 t 2 = nI C) (e3 : S.1 18 t 3 = w 12) {x : Int32} {k : Int32 → sSt → Prop} : F_X6_waitOf t x (nI T) S k ↔ k (wtv w B C T x) S := by
  have p9 := pow_9 hB hT
  rw [F_X6_waitOf, forall_eq, e1]
  have fin : ∀ y, y ≤ 2304 → (if C < y then C else y) = wtb B C T → (B_X6_waitOf_36 t x (nI T) (nI y) S k ↔ k (wtv w B C T x) S) := by
    intro y hy he
    rw [B_X6_waitOf_36, e2, e3, forall_eq, forall_eq]
    have : (if nI C < nI y then nI C else nI y) = nI (wtb B C T) := by
      rw [← he]
      by_cases c : C < y
      · rw [if_pos ((nI_ltI (by omega) (by omega)).mpr c), if_pos c]
      · rw [if_neg (fun q => c ((nI_ltI (by omega) (by omega)).mp q)), if_neg c]
    rw [this]
    have h1 : (1 : Int32) ≤ w 12 + 1 := by
      obtain ⟨j, j1, j2⟩ := hW
      rw [j2, nI_1]; exact nI_le (a := 1) (by omega) (by omega)
    simp only [h1, true_implies, not_true_eq_false, false_implies, and_true]
    exact ⟨fun q => q.2, fun q => ⟨jit_ne hW, q⟩⟩
  suffices hh : ∀ r q m, q + r = (if 1 ≤ T then T else 1) → r < m → 1 ≤ q → (B_X6_waitOf_10 m t x (nI T) (nI (B * 2 ^ (q - 1))) (nI q) S k ↔ k (wtv w B C T x) S) by
    have := hh ((if 1 ≤ T then T else 1) - 1) 1 fuel (by split <;> omega) (fuel_gt (by split <;> omega)) (by omega)
    rw [show B * 2 ^ (1 - 1) = B from by simp] at this
    exact this
  intro r
  induction r with
  | zero =>
    intro q m hq hm h1
    obtain ⟨m, rfl⟩ : ∃ y, m = y + 1 := ⟨m - 1, by omega⟩
    have hTq : T ≤ q := by split at hq <;> omega
    have e : B * 2 ^ (q - 1) = B * 2 ^ (T - 1) := by
      split at hq
      · rw [show q = T from by omega]
      · rw [show q = 1 from by omega, show T = 0 from by omega]
    simp only [B_X6_waitOf_10_s, Bb_X6_waitOf_10, (nI_leI (show T < 2147483648 by omega) (show q < 2147483648 by split at hq <;> omega)).mpr hTq, true_implies, not_true_eq_false, false_implies, and_true, e]
    exact fin _ p9 rfl
  | succ r ih =>
    intro q m hq hm h1
    obtain ⟨m, rfl⟩ : ∃ y, m = y + 1 := ⟨m - 1, by omega⟩
    have hTq : q < T := by split at hq <;> omega
    have h : ¬ nI T ≤ nI q := nI_ge hTq (by omega)
    have hle := pow_le (B := B) (T := T) (k := q) (by omega)
    simp only [B_X6_waitOf_10_s, Bb_X6_waitOf_10, h, false_implies, true_and, not_false_eq_true, true_implies, e2, forall_eq, nI_1]
    rw [show (nI (B * 2 ^ (q - 1)) * 2 : Int32) = nI (B * 2 ^ (q + 1 - 1)) from by rw [show (2 : Int32) = nI 2 from rfl, pk_mul, pow_s h1]]
    rw [ih (q + 1) m (by omega) (by omega) (by omega)]
    by_cases c : C ≤ B * 2 ^ (q - 1)
    · rw [fin _ (by omega) (by unfold wtb; split <;> split <;> omega)]
      simp [nI_leI (show C < 2147483648 by omega) (show B * 2 ^ (q - 1) < 2147483648 by omega), c]
    · simp [nI_leI (show C < 2147483648 by omega) (show B * 2 ^ (q - 1) < 2147483648 by omega), c]
theorem wtv_is {B C T J x : Nat} (hJ : J ≤ 9) (eJ : w 12 = nI J) (hx : x < 1000000) (hT : T ≤ 9) : wtv w B C T (nI x) = nI (wtb B C T + (7 * x + 3 * T) % (J + 1)) := by
  unfold wtv
  rw [eJ, nI_1, show (7 : Int32) = nI 7 from rfl, show (3 : Int32) = nI 3 from rfl, pk_mul, pk_mul, nI_add, pk_rem (by omega) (by omega) (by omega), nI_add]
end WT
end PU22
