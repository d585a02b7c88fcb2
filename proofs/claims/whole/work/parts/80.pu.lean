section PU0
/-! THE PURE LEVEL: worlds (the model's row), slots, orders. Nothing of the machine occurs here. -/
abbrev Wd : Type := Nat → Int32
def b2i (b : Bool) : Int32 := if b then 1 else 0
theorem b2i_t : b2i true = 1 := rfl
theorem b2i_f : b2i false = 0 := rfl
theorem b2i_0 (b : Bool) : (b2i b = 0) ↔ b = false := by cases b <;> decide
theorem b2i_1 (b : Bool) : (b2i b = 1) ↔ b = true := by cases b <;> decide
theorem b2i_n (b : Bool) : b2i b = nI b.toNat := by cases b <;> rfl
theorem b2i_or (b : Bool) : b2i b = 0 ∨ b2i b = 1 := by cases b <;> decide
theorem bz_b {b : Bool} {P : Prop} : bz (b2i b) P ↔ P := ⟨fun h => h.2, fun h => ⟨b2i_or b, h⟩⟩
theorem bz_0 {P : Prop} : bz 0 P ↔ P := ⟨fun h => h.2, fun h => ⟨Or.inl rfl, h⟩⟩
theorem bz_1 {P : Prop} : bz 1 P ↔ P := ⟨fun h => h.2, fun h => ⟨Or.inr rfl, h⟩⟩
theorem cdi {c P Q : Prop} [Decidable c] : ((c → P) ∧ (¬ c → Q)) ↔ (if c then P else Q) := by by_cases h : c <;> simp [h]
theorem cdn {c P Q : Prop} [Decidable c] : ((¬ c → P) ∧ (c → Q)) ↔ (if c then Q else P) := by by_cases h : c <;> simp [h]
theorem ix_n {j n : Nat} {P : Nat → Prop} (hj : j < n) (hn : n ≤ 2147483648) : ix (nI j) n P ↔ P j := by
  refine ⟨fun ⟨i, hi, he, hP⟩ => ?_, fun h => ⟨j, hj, rfl, h⟩⟩
  rw [(nI_eq (by omega) (by omega)).mp he]; exact hP
theorem opt_n {α : Type} {P : Prop} {Q : α → Prop} : (((none : Option α) = none → P) ∧ (∀ r, (none : Option α) = some r → Q r)) ↔ P := by simp
theorem opt_s {α : Type} {a : α} {P : Prop} {Q : α → Prop} : ((some a = none → P) ∧ (∀ r, some a = some r → Q r)) ↔ Q a := by simp
theorem fuel_gt {n : Nat} (h : n < 2000000) : n < fuel := h
theorem nI_0s : nI 0 = 0 := rfl
theorem ni_m1 {n : Nat} (h : n < 2147483648) : ¬ nI n = -1 := by
  intro q
  have := congrArg Int32.toInt q
  rw [nI_toInt h] at this
  rw [show (-1 : Int32).toInt = -1 from rfl] at this
  omega
theorem na_0 (n : Nat) : nI n + 0 = nI n := Int32.add_zero _
theorem na_1 (n : Nat) : nI n + 1 = nI (n + 1) := nI_add n 1
theorem na_2 (n : Nat) : nI n + 2 = nI (n + 2) := nI_add n 2
theorem na_3 (n : Nat) : nI n + 3 = nI (n + 3) := nI_add n 3
theorem na_4 (n : Nat) : nI n + 4 = nI (n + 4) := nI_add n 4
theorem na_5 (n : Nat) : nI n + 5 = nI (n + 5) := nI_add n 5
theorem na_6 (n : Nat) : nI n + 6 = nI (n + 6) := nI_add n 6
theorem na_7 (n : Nat) : nI n + 7 = nI (n + 7) := nI_add n 7
theorem na_8 (n : Nat) : nI n + 8 = nI (n + 8) := nI_add n 8
theorem na_9 (n : Nat) : nI n + 9 = nI (n + 9) := nI_add n 9
theorem na_10 (n : Nat) : nI n + 10 = nI (n + 10) := nI_add n 10
theorem na_11 (n : Nat) : nI n + 11 = nI (n + 11) := nI_add n 11
theorem na_12 (n : Nat) : nI n + 12 = nI (n + 12) := nI_add n 12
theorem na_13 (n : Nat) : nI n + 13 = nI (n + 13) := nI_add n 13
theorem na_15 (n : Nat) : (15 : Int32) + nI n = nI (15 + n) := nI_add 15 n
theorem ni_mul (a b : Nat) : nI a * nI b = nI (a * b) := pk_mul a b
theorem ja_n (j f : Nat) : (21 + (47 * nI j)) + nI f = nI (21 + 47 * j + f) := by
  show (nI 21 + (nI 47 * nI j)) + nI f = _
  rw [pk_mul, nI_add, nI_add]
theorem sa_n (j f : Nat) : (1149 + (27 * nI j)) + nI f = nI (1149 + 27 * j + f) := by
  show (nI 1149 + (nI 27 * nI j)) + nI f = _
  rw [pk_mul, nI_add, nI_add]
theorem pa_n (j f : Nat) : (1257 + (8 * nI j)) + nI f = nI (1257 + 8 * j + f) := by
  show (nI 1257 + (nI 8 * nI j)) + nI f = _
  rw [pk_mul, nI_add, nI_add]
/-- a loop that counts -/
theorem lp_sum {L : Nat → Int32 → Int32 → Prop} {K : Int32 → Prop} {N : Nat} (P : Nat → Bool) (he : ∀ m c, L (m + 1) c (nI N) ↔ K c) (hs : ∀ m c i, i < N → (L (m + 1) c (nI i) ↔ L m (c + b2i (P i)) (nI (i + 1)))) :
    ∀ (r i m : Nat) (c : Nat), i + r = N → r < m → (L m (nI c) (nI i) ↔ K (nI (c + (List.range' i r).countP P))) := by
  intro r
  induction r with
  | zero =>
    intro i m c hi hm
    obtain ⟨m, rfl⟩ : ∃ q, m = q + 1 := ⟨m - 1, by omega⟩
    have : i = N := by omega
    subst this
    rw [he]
    simp
  | succ r ih =>
    intro i m c hi hm
    obtain ⟨m, rfl⟩ : ∃ q, m = q + 1 := ⟨m - 1, by omega⟩
    rw [hs m _ i (by omega), b2i_n, nI_add, ih (i + 1) m _ (by omega) (by omega), List.range'_succ, List.countP_cons]
    have : c + (P i).toNat + (List.range' (i + 1) r).countP P = c + ((List.range' (i + 1) r).countP P + if P i = true then 1 else 0) := by cases P i <;> simp <;> omega
    rw [this]
theorem lp_sum0 {L : Nat → Int32 → Int32 → Prop} {K : Int32 → Prop} {N M : Nat} (P : Nat → Bool) (hN : N < M) (he : ∀ m c, L (m + 1) c (nI N) ↔ K c) (hs : ∀ m c i, i < N → (L (m + 1) c (nI i) ↔ L m (c + b2i (P i)) (nI (i + 1)))) : L M 0 0 ↔ K (nI ((List.range' 0 N).countP P)) := by
  have := lp_sum P he hs N 0 M 0 (by omega) hN
  rw [Nat.zero_add] at this
  exact this
/-- the slot at a place -/
def pl (π : List Nat) (i : Nat) : Nat := π.getD i 0
theorem getD_ex {π : List Nat} {i : Nat} (h : i < π.length) : π[i]? = some (pl π i) := by
  unfold pl
  rw [List.getD_eq_getElem?_getD, List.getElem?_eq_getElem h]; rfl
theorem range_map (π : List Nat) : (List.range' 0 π.length).map (fun i => pl π i) = π := by
  apply List.ext_getElem?
  intro i
  rw [List.getElem?_map]
  by_cases h : i < π.length
  · rw [List.getElem?_range' (by omega)]
    simp only [Option.map_some, Nat.zero_add, Nat.one_mul]
    exact (getD_ex h).symm
  · rw [List.getElem?_eq_none (by simpa using h), List.getElem?_eq_none (by omega)]
    rfl
/-- what is counted by places is counted by slots -/
theorem cnt_pl (π : List Nat) (P : Nat → Bool) : (List.range' 0 π.length).countP (fun i => P (pl π i)) = π.countP P := by
  have h : π.countP P = ((List.range' 0 π.length).map (fun i => pl π i)).countP P := by rw [range_map]
  rw [h, List.countP_map]
  rfl
theorem cnt_le {P : Nat → Bool} {i r : Nat} : (List.range' i r).countP P ≤ r := by
  have := List.countP_le_length (p := P) (l := List.range' i r)
  simpa using this
end PU0
