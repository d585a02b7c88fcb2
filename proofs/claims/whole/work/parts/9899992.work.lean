section PU58
/-! CALL work: how long work lasts, step by step. β j: 0 not there, 1 waits, t + 2 begun at t.
d 0: costs, d 1: dues, d 2: groups, d 3: numbers, d 4: how many at once, d 5 0: hands -/
def atw (d : Nat → Nat → Nat) (β : Nat → Nat) (t j : Nat) : Bool := decide (2 ≤ β j) && decide (β j - 2 ≤ t) && decide (t < β j - 2 + d 0 j)
def wrk (d : Nat → Nat → Nat) (β : Nat → Nat) (t : Nat) : Nat := (List.range' 0 24).countP (atw d β t)
def grk (d : Nat → Nat → Nat) (β : Nat → Nat) (t g : Nat) : Nat := (List.range' 0 24).countP (fun i => decide (d 2 i = g) && atw d β t i)
def lsw (d : Nat → Nat → Nat) (β : Nat → Nat) (j : Nat) : Bool := (List.range' 0 24).any (fun i => decide (β i = 1) && decide (d 2 i = d 2 j) && decide (d 3 i < d 3 j))
def mbg (d : Nat → Nat → Nat) (β : Nat → Nat) (t j : Nat) : Bool := decide (β j = 1) && decide (d 1 j ≤ t) && !lsw d β j && decide (grk d β t (d 2 j) < d 4 (d 2 j))
def nxb (d : Nat → Nat → Nat) (β : Nat → Nat) (t : Nat) : Option Nat := bst (mbg d β t) (fun a b => decide (d 3 a < d 3 b)) none 0 24
def bup (β : Nat → Nat) (j t : Nat) : Nat → Nat := fun x => if x = j then t + 2 else β x
def bgn (d : Nat → Nat → Nat) (t : Nat) : Nat → (Nat → Nat) → Nat → (Nat → Nat) × Nat
  | 0, β, l => (β, l)
  | r + 1, β, l => match nxb d β t with
    | none => (β, l)
    | some j => if d 5 0 ≤ wrk d β t then (β, l) else bgn d t r (bup β j t) (max l (t + d 0 j))
def sim (d : Nat → Nat → Nat) : Nat → Nat → (Nat → Nat) → Nat → (Nat → Nat) × Nat
  | 0, _, β, l => (β, l)
  | n + 1, t, β, l => sim d n (t + 1) (bgn d t 24 β l).1 (bgn d t 24 β l).2
section WRK
variable {d : Nat → Nat → Nat} {β : Nat → Nat} {t : Nat}
theorem bst_is {P : Nat → Bool} {A : Nat → Nat → Bool} : ∀ r i o, (∀ b, o = some b → P b = true ∧ b < i) → ∀ j, bst P A o i r = some j → P j = true ∧ j < i + r := by
  intro r
  induction r with
  | zero => intro i o ho j h; rw [bst_0] at h; have := ho j h; exact ⟨this.1, by omega⟩
  | succ r ih =>
    intro i o ho j h
    rw [bst_s] at h
    have := ih (i + 1) _ (fun b hb => ?_) j h
    · exact ⟨this.1, by omega⟩
    · cases c : (P i && btr A i o)
      · rw [c, Bool.cond_false] at hb
        have := ho b hb
        exact ⟨this.1, by omega⟩
      · rw [c, Bool.cond_true] at hb
        cases hb
        rw [Bool.and_eq_true] at c
        exact ⟨c.1, by omega⟩
theorem bst_no {P : Nat → Bool} {A : Nat → Nat → Bool} : ∀ r i o, bst P A o i r = none → o = none ∧ ∀ j, i ≤ j → j < i + r → P j = false := by
  intro r
  induction r with
  | zero => intro i o h; exact ⟨h, fun j a b => by omega⟩
  | succ r ih =>
    intro i o h
    rw [bst_s] at h
    obtain ⟨h1, h2⟩ := ih _ _ h
    cases c : (P i && btr A i o)
    · rw [c, Bool.cond_false] at h1
      subst h1
      rw [show btr A i none = true from rfl, Bool.and_true] at c
      refine ⟨rfl, fun j a b => ?_⟩
      by_cases e : j = i
      · rw [e]; exact c
      · exact h2 j (by omega) (by omega)
    · rw [c, Bool.cond_true] at h1; cases h1
theorem nxb_is {j : Nat} (h : nxb d β t = some j) : mbg d β t j = true ∧ j < 24 := by
  have := bst_is 24 0 none (fun b hb => by cases hb) j h
  exact ⟨this.1, by omega⟩
theorem nxb_no (h : nxb d β t = none) {j : Nat} (hj : j < 24) : mbg d β t j = false := (bst_no 24 0 none h).2 j (by omega) (by omega)
theorem mbg_1 {j : Nat} (h : mbg d β t j = true) : β j = 1 := by
  simp only [mbg, Bool.and_eq_true, decide_eq_true_eq] at h; exact h.1.1.1
theorem nxb_0 (h : ∀ j, j < 24 → β j ≠ 1) : nxb d β t = none := by
  cases c : nxb d β t with
  | none => rfl
  | some j => have := nxb_is c; exact absurd (mbg_1 this.1) (h j this.2)
def wtg (β : Nat → Nat) : Nat := (List.range' 0 24).countP (fun i => decide (β i = 1))
theorem wtg_0 (h : wtg β = 0) : ∀ j, j < 24 → β j ≠ 1 := by
  intro j hj e
  unfold wtg at h
  rw [List.countP_eq_zero] at h
  exact h j (by rw [List.mem_range'_1]; omega) (by simp [e])
theorem wtg_up {j : Nat} (hj : j < 24) (h : β j = 1) : wtg (bup β j t) + 1 = wtg β := by
  refine cnt_one (j := j) (N := 24) (by simp [h]) ?_ (fun i hi hne => ?_) 24 0 (by omega) (by omega) (by omega)
  · unfold bup; simp
  · unfold bup; rw [if_neg hne]
theorem wtg_le : wtg β ≤ 24 := by
  have := List.countP_le_length (p := fun i => decide (β i = 1)) (l := List.range' 0 24)
  rw [List.length_range'] at this
  exact this
/-- nobody begins any more at t -/
def fp (d : Nat → Nat → Nat) (β : Nat → Nat) (t : Nat) : Prop := nxb d β t = none ∨ d 5 0 ≤ wrk d β t
theorem bgn_id (h : fp d β t) : ∀ r l, bgn d t r β l = (β, l) := by
  intro r l
  cases r with
  | zero => rfl
  | succ r =>
    rw [bgn]
    rcases h with h | h
    · rw [h]
    · cases nxb d β t with
      | none => rfl
      | some j => exact if_pos h
theorem bgn_fp : ∀ r β l, wtg β ≤ r → fp d (bgn d t r β l).1 t := by
  intro r
  induction r with
  | zero =>
    intro β l h
    show fp d β t
    exact Or.inl (nxb_0 (wtg_0 (Nat.le_zero.mp h)))
  | succ r ih =>
    intro β l h
    rw [bgn]
    cases c : nxb d β t with
    | none => exact Or.inl c
    | some j =>
      have hj := nxb_is c
      by_cases c2 : d 5 0 ≤ wrk d β t
      · simp only [c2, if_true]; exact Or.inr c2
      · simp only [c2, if_false]
        refine ih _ _ ?_
        have := wtg_up (t := t) hj.2 (mbg_1 hj.1)
        omega
/-- what a road of begins keeps -/
theorem bgn_ind {P : (Nat → Nat) → Nat → Prop} (hP : ∀ β l j, j < 24 → β j = 1 → mbg d β t j = true → P β l → P (bup β j t) (max l (t + d 0 j))) : ∀ r β l, P β l → P (bgn d t r β l).1 (bgn d t r β l).2 := by
  intro r
  induction r with
  | zero => intro β l h; exact h
  | succ r ih =>
    intro β l h
    rw [bgn]
    cases c : nxb d β t with
    | none => exact h
    | some j =>
      have hj := nxb_is c
      by_cases c2 : d 5 0 ≤ wrk d β t
      · simp only [c2, if_true]; exact h
      · simp only [c2, if_false]
        exact ih _ _ (hP β l j hj.2 (mbg_1 hj.1) hj.1 h)
theorem sim_ind {P : Nat → (Nat → Nat) → Nat → Prop} (hP : ∀ t β l j, j < 24 → β j = 1 → mbg d β t j = true → P t β l → P t (bup β j t) (max l (t + d 0 j))) (hS : ∀ t β l, P t β l → P (t + 1) β l) : ∀ n t β l, P t β l → P (t + n) (sim d n t β l).1 (sim d n t β l).2 := by
  intro n
  induction n with
  | zero => intro t β l h; exact h
  | succ n ih =>
    intro t β l h
    rw [sim, show t + (n + 1) = (t + 1) + n from by omega]
    exact ih (t + 1) _ _ (hS _ _ _ (bgn_ind (P := P t) (hP t) 24 β l h))
/-- one that doesn't wait stays as it is -/
theorem bgn_keep {j : Nat} (r : Nat) (l : Nat) (h : β j ≠ 1) : (bgn d t r β l).1 j = β j := by
  have := bgn_ind (d := d) (t := t) (P := fun γ _ => γ j = β j) (fun γ l i hi h1 _ hγ => by
    have hne : j ≠ i := fun e => h (by rw [← hγ, e]; exact h1)
    show bup γ i t j = β j
    unfold bup
    rw [if_neg hne]; exact hγ) r β l rfl
  exact this
theorem sim_keep {j : Nat} (n : Nat) (l : Nat) (h : β j ≠ 1) : (sim d n t β l).1 j = β j := by
  have := sim_ind (d := d) (P := fun _ γ _ => γ j = β j) (fun t γ l i hi h1 _ hγ => by
    have hne : j ≠ i := fun e => h (by rw [← hγ, e]; exact h1)
    show bup γ i t j = β j
    unfold bup
    rw [if_neg hne]; exact hγ) (fun _ _ _ q => q) n t β l rfl
  exact this
theorem sim_no (h : ∀ j, j < 24 → β j ≠ 1) : ∀ n t l, sim d n t β l = (β, l) := by
  intro n
  induction n with
  | zero => intro t l; rfl
  | succ n ih => intro t l; rw [sim, bgn_id (Or.inl (nxb_0 h))]; exact ih _ _
theorem sim_add : ∀ a b t β l, sim d (a + b) t β l = sim d b (t + a) (sim d a t β l).1 (sim d a t β l).2 := by
  intro a
  induction a with
  | zero => intro b t β l; rw [Nat.zero_add]; rfl
  | succ a ih =>
    intro b t β l
    rw [show a + 1 + b = (a + b) + 1 from by omega, sim, sim, ih, show t + 1 + a = t + (a + 1) from by omega]
def btm (β : Nat → Nat) (t : Nat) : Prop := ∀ j, 2 ≤ β j → β j - 2 ≤ t
theorem bt_bgn (r l : Nat) (h : btm β t) : btm (bgn d t r β l).1 t :=
  bgn_ind (P := fun γ _ => btm γ t) (fun γ l i hi h1 _ hγ => fun j hj => by
    unfold bup at hj ⊢
    split
    · omega
    · rename_i c; rw [if_neg c] at hj; exact hγ j hj) r β l h
/-- as long as nobody ends and none comes due nobody begins -/
theorem idle {s : Nat} (h : fp d β t) (hb : btm β t) (hs : t < s) (h1 : ∀ j, j < 24 → atw d β t j = true → s < β j - 2 + d 0 j) (h2 : ∀ j, j < 24 → β j = 1 → t < d 1 j → s < d 1 j) : fp d β s := by
  have ea : ∀ j, j < 24 → atw d β s j = atw d β t j := fun j hj => by
    have hbj := hb j
    have h1j := h1 j hj
    unfold atw at h1j ⊢
    by_cases c : 2 ≤ β j
    · have hle := hbj c
      by_cases c2 : t < β j - 2 + d 0 j
      · have := h1j (by simp [c, hle, c2])
        simp [c, hle, c2, this, show β j - 2 ≤ s by omega]
      · simp [c, hle, c2, show ¬ s < β j - 2 + d 0 j by omega]
    · simp [c]
  have ew : wrk d β s = wrk d β t := List.countP_congr (fun j hj => by
    rw [List.mem_range'_1] at hj
    rw [ea j (by omega)])
  have eg : ∀ g, grk d β s g = grk d β t g := fun g => List.countP_congr (fun j hj => by
    rw [List.mem_range'_1] at hj
    rw [ea j (by omega)])
  have en : nxb d β s = nxb d β t := by
    unfold nxb
    refine bst_cg (fun _ _ => rfl) 24 0 none (fun j _ hj => ?_)
    unfold mbg
    rw [eg]
    by_cases c : β j = 1
    · by_cases c2 : d 1 j ≤ t
      · simp [c, c2, show d 1 j ≤ s by omega]
      · have := h2 j (by omega) c (by omega)
        simp [c, c2, show ¬ d 1 j ≤ s by omega]
    · simp [c]
  unfold fp
  rw [en, ew]
  exact h
theorem sim_idle : ∀ k m t l, (∀ s, t ≤ s → s < t + k → fp d β s) → sim d (k + m) t β l = sim d m (t + k) β l := by
  intro k
  induction k with
  | zero => intro m t l _; rw [Nat.zero_add]; rfl
  | succ k ih =>
    intro m t l h
    rw [show k + 1 + m = (k + m) + 1 from by omega, sim, bgn_id (h t (Nat.le_refl t) (by omega)), ih m (t + 1) l (fun s a b => h s (by omega) (by omega)), show t + 1 + k = t + (k + 1) from by omega]
/-! when something happens next -/
def tbh (d : Nat → Nat → Nat) (β : Nat → Nat) (t : Nat) : Nat → Nat → Nat → Nat
  | 0, _, a => a
  | r + 1, i, a =>
    let b := if β i = 1 ∧ t < d 1 i then min (d 1 i) a else a
    tbh d β t r (i + 1) (if atw d β t i = true then min (β i - 2 + d 0 i) b else b)
theorem tbh_ok : ∀ r i a, t < a → t < tbh d β t r i a ∧ tbh d β t r i a ≤ a ∧ ∀ j, i ≤ j → j < i + r → (atw d β t j = true → tbh d β t r i a ≤ β j - 2 + d 0 j) ∧ (β j = 1 → t < d 1 j → tbh d β t r i a ≤ d 1 j) := by
  intro r
  induction r with
  | zero => intro i a h; exact ⟨h, Nat.le_refl _, fun j x y => by omega⟩
  | succ r ih =>
    intro i a h
    rw [tbh]
    obtain ⟨b, hb⟩ : ∃ b, b = (if β i = 1 ∧ t < d 1 i then min (d 1 i) a else a) := ⟨_, rfl⟩
    obtain ⟨c, hc⟩ : ∃ c, c = (if atw d β t i = true then min (β i - 2 + d 0 i) b else b) := ⟨_, rfl⟩
    show t < tbh d β t r (i + 1) (if atw d β t i = true then min (β i - 2 + d 0 i) (if β i = 1 ∧ t < d 1 i then min (d 1 i) a else a) else (if β i = 1 ∧ t < d 1 i then min (d 1 i) a else a)) ∧ _
    rw [← hb, ← hc]
    have b1 : t < b ∧ b ≤ a ∧ (β i = 1 → t < d 1 i → b ≤ d 1 i) := by
      rw [hb]
      by_cases q : β i = 1 ∧ t < d 1 i
      · rw [if_pos q]; exact ⟨by omega, by omega, fun _ _ => by omega⟩
      · rw [if_neg q]; exact ⟨h, Nat.le_refl _, fun x y => absurd ⟨x, y⟩ q⟩
    have c1 : t < c ∧ c ≤ b ∧ (atw d β t i = true → c ≤ β i - 2 + d 0 i) := by
      rw [hc]
      by_cases q : atw d β t i = true
      · rw [if_pos q]
        have : t < β i - 2 + d 0 i := by
          unfold atw at q
          simp only [Bool.and_eq_true, decide_eq_true_eq] at q
          exact q.2
        exact ⟨by omega, by omega, fun _ => by omega⟩
      · rw [if_neg q]; exact ⟨b1.1, Nat.le_refl _, fun x => absurd x q⟩
    obtain ⟨z1, z2, z3⟩ := ih (i + 1) c c1.1
    refine ⟨z1, by omega, fun j x y => ?_⟩
    by_cases e : j = i
    · rw [e]
      exact ⟨fun q => Nat.le_trans z2 (c1.2.2 q), fun q1 q2 => Nat.le_trans z2 (Nat.le_trans c1.2.1 (b1.2.2 q1 q2))⟩
    · exact z3 j (by omega) (by omega)
/-- the model's step over times at which nothing happens -/
theorem sim_jump {M l : Nat} (hf : fp d β t) (hb : btm β t) (ht : t < M) : sim d (M - (t + 1)) (t + 1) β l = sim d (M - tbh d β t 24 0 M) (tbh d β t 24 0 M) β l := by
  obtain ⟨z1, z2, z3⟩ := tbh_ok (d := d) (β := β) (t := t) 24 0 M ht
  obtain ⟨u, hu⟩ : ∃ u, u = tbh d β t 24 0 M := ⟨_, rfl⟩
  rw [← hu] at z1 z2 z3 ⊢
  have := sim_idle (d := d) (β := β) (u - (t + 1)) (M - u) (t + 1) l (fun s a b => idle hf hb (by omega) (fun j hj q => by have := (z3 j (by omega) (by omega)).1 q; omega) (fun j hj q1 q2 => by have := (z3 j (by omega) (by omega)).2 q1 q2; omega))
  rw [show u - (t + 1) + (M - u) = M - (t + 1) from by omega, show t + 1 + (u - (t + 1)) = u from by omega] at this
  exact this
/-! all begin -/
def lft (d : Nat → Nat → Nat) (β : Nat → Nat) (t i : Nat) : Nat := if β i = 1 then d 0 i else if 2 ≤ β i then β i - 2 + d 0 i - t else 0
def phi (d : Nat → Nat → Nat) (β : Nat → Nat) (t : Nat) : Nat := ((List.range' 0 24).map (lft d β t)).sum
theorem sum_cg {f g : Nat → Nat} : ∀ L : List Nat, (∀ x, x ∈ L → f x = g x) → (L.map f).sum = (L.map g).sum := by
  intro L h
  rw [List.map_congr_left h]
theorem phi_bgn (r l : Nat) : phi d (bgn d t r β l).1 t = phi d β t :=
  bgn_ind (P := fun γ _ => phi d γ t = phi d β t) (fun γ l i hi h1 _ hγ => by
    rw [← hγ]
    refine sum_cg _ (fun x _ => ?_)
    unfold lft bup
    by_cases c : x = i
    · rw [c, if_pos rfl, h1]; simp
    · rw [if_neg c]) r β l rfl
theorem sum_dec {f g : Nat → Nat} {P : Nat → Bool} : ∀ L : List Nat, (∀ x, x ∈ L → g x + (if P x = true then 1 else 0) ≤ f x) → (L.map g).sum + L.countP P ≤ (L.map f).sum := by
  intro L
  induction L with
  | nil => intro _; simp
  | cons a L ih =>
    intro h
    rw [List.map_cons, List.map_cons, List.sum_cons, List.sum_cons, List.countP_cons]
    have h1 := h a List.mem_cons_self
    have h2 := ih (fun x hx => h x (List.mem_cons_of_mem _ hx))
    omega
theorem phi_dec : phi d β (t + 1) + wrk d β t ≤ phi d β t := by
  refine sum_dec _ (fun x _ => ?_)
  unfold lft atw
  by_cases c1 : β x = 1
  · simp [c1]
  · by_cases c2 : 2 ≤ β x
    · by_cases c3 : β x - 2 ≤ t
      · by_cases c4 : t < β x - 2 + d 0 x
        · simp [c1, c2, c3, c4]; omega
        · simp [c1, c2, c3, c4]; omega
      · simp [c1, c2, c3]; omega
    · simp [c1, c2]
theorem sum_mem {f : Nat → Nat} : ∀ L : List Nat, ∀ x, x ∈ L → f x ≤ (L.map f).sum := by
  intro L
  induction L with
  | nil => intro x h; cases h
  | cons a L ih =>
    intro x h
    rw [List.map_cons, List.sum_cons]
    rcases List.mem_cons.mp h with e | e
    · rw [e]; omega
    · have := ih x e; omega
theorem least_w {f : Nat → Nat} {P : Nat → Prop} : ∀ n j, f j ≤ n → P j → ∃ k, P k ∧ ∀ i, P i → f k ≤ f i := by
  intro n
  induction n with
  | zero => intro j h hp; exact ⟨j, hp, fun i _ => by omega⟩
  | succ n ih =>
    intro j h hp
    by_cases c : ∃ i, P i ∧ f i < f j
    · obtain ⟨i, i1, i2⟩ := c
      exact ih i (by omega) i1
    · exact ⟨j, hp, fun i hi => by
        by_cases q : f j ≤ f i
        · exact q
        · exact absurd ⟨i, hi, by omega⟩ c⟩
/-- when all are due and one waits, one is at work -/
theorem wrk_1 (hf : fp d β t) (h5 : 1 ≤ d 5 0) (h4 : ∀ j, j < 24 → β j = 1 → 1 ≤ d 4 (d 2 j)) (hd : ∀ j, j < 24 → β j = 1 → d 1 j ≤ t) {j : Nat} (hj : j < 24) (h1 : β j = 1) : 1 ≤ wrk d β t := by
  rcases hf with hf | hf
  · obtain ⟨k, ⟨k1, k2⟩, k3⟩ := least_w (f := d 3) (P := fun i => i < 24 ∧ β i = 1) (d 3 j) j (Nat.le_refl _) ⟨hj, h1⟩
    have hn := nxb_no hf k1
    unfold mbg at hn
    have hl : lsw d β k = false := by
      unfold lsw
      rw [List.any_eq_false]
      intro i hi
      rw [List.mem_range'_1] at hi
      intro q
      simp only [Bool.and_eq_true, decide_eq_true_eq] at q
      have := k3 i ⟨by omega, q.1.1⟩
      omega
    rw [hl] at hn
    have hdk := hd k k1 k2
    have h4k := h4 k k1 k2
    simp [k2, hdk] at hn
    have hle : grk d β t (d 2 k) ≤ wrk d β t := by
      unfold grk wrk
      refine List.countP_mono_left (fun x _ h => ?_)
      rw [Bool.and_eq_true] at h
      exact h.2
    omega
  · omega
theorem all_begin (h5 : 1 ≤ d 5 0) (h4 : ∀ j, j < 24 → 1 ≤ d 4 (d 2 j)) (h0 : ∀ j, j < 24 → 1 ≤ d 0 j) : ∀ n t β l, (∀ j, j < 24 → β j = 1 → d 1 j ≤ t) → phi d β t ≤ n → ∀ j, j < 24 → (sim d n t β l).1 j ≠ 1 := by
  intro n
  induction n with
  | zero =>
    intro t β l hd hp j hj e
    have := sum_mem (f := lft d β t) (List.range' 0 24) j (by rw [List.mem_range'_1]; omega)
    have e' : β j = 1 := e
    have h0j := h0 j hj
    unfold phi at hp
    have e2 : lft d β t j = d 0 j := by unfold lft; rw [if_pos e']
    omega
  | succ n ih =>
    intro t β l hd hp j hj
    rw [sim]
    have hphi := phi_bgn (d := d) (β := β) (t := t) 24 l
    have hfp := bgn_fp (d := d) (t := t) 24 β l wtg_le
    have hsub : ∀ i, (bgn d t 24 β l).1 i = 1 → β i = 1 := fun i hi => by
      by_cases c : β i = 1
      · exact c
      · rw [bgn_keep 24 l c] at hi; exact hi
    obtain ⟨γ, hγ⟩ : ∃ γ, γ = (bgn d t 24 β l).1 := ⟨_, rfl⟩
    rw [← hγ] at hphi hfp hsub ⊢
    by_cases c : ∃ i, i < 24 ∧ γ i = 1
    · obtain ⟨i, i1, i2⟩ := c
      have h1 := wrk_1 hfp h5 (fun i hi _ => h4 i hi) (fun i hi q => hd i hi (hsub i q)) i1 i2
      have h2 := phi_dec (d := d) (β := γ) (t := t)
      exact ih (t + 1) γ _ (fun i hi q => by have := hd i hi (hsub i q); omega) (by omega) j hj
    · rw [sim_no (fun i hi q => c ⟨i, hi, q⟩)]
      exact fun q => c ⟨j, hj, q⟩
theorem lft_le {t i : Nat} (hb : btm β t) (h9 : d 0 i ≤ 9) : lft d β t i ≤ 9 := by
  unfold lft
  have := hb i
  split
  · exact h9
  · split <;> omega
theorem sum_le9 {f : Nat → Nat} : ∀ L : List Nat, (∀ x, x ∈ L → f x ≤ 9) → (L.map f).sum ≤ 9 * L.length := by
  intro L
  induction L with
  | nil => intro _; simp
  | cons a L ih =>
    intro h
    rw [List.map_cons, List.sum_cons, List.length_cons]
    have h1 := h a List.mem_cons_self
    have h2 := ih (fun x hx => h x (List.mem_cons_of_mem _ hx))
    omega
theorem bt_sim (n l : Nat) (h : btm β t) : btm (sim d n t β l).1 (t + n) :=
  sim_ind (d := d) (P := fun s γ _ => btm γ s) (fun s γ l i hi h1 _ hγ => fun j hj => by
    unfold bup at hj ⊢
    split
    · omega
    · rename_i c; rw [if_neg c] at hj; exact hγ j hj) (fun s γ l q j hj => by have := q j hj; omega) n t β l h
/-- within so many steps all have begun -/
theorem all_in (h5 : 1 ≤ d 5 0) (h4 : ∀ j, j < 24 → 1 ≤ d 4 (d 2 j)) (h0 : ∀ j, j < 24 → 1 ≤ d 0 j) (h9 : ∀ j, j < 24 → d 0 j ≤ 9) (hd : ∀ j, j < 24 → d 1 j ≤ 10107) (hb : btm β t) {n l : Nat} (hn : 10107 + 216 ≤ n) : ∀ j, j < 24 → (sim d n t β l).1 j ≠ 1 := by
  intro j hj
  rw [show n = 10107 + (n - 10107) from by omega, sim_add]
  refine all_begin h5 h4 h0 _ _ _ _ (fun i hi _ => by have := hd i hi; omega) ?_ j hj
  have hb2 := bt_sim (d := d) 10107 l hb
  have : phi d (sim d 10107 t β l).1 (t + 10107) ≤ 9 * (List.range' 0 24).length := sum_le9 _ (fun x hx => by
    rw [List.mem_range'_1] at hx
    exact lft_le hb2 (h9 x (by omega)))
  rw [List.length_range'] at this
  omega
end WRK
end PU58
