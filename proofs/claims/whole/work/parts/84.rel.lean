section PU4
/-! THE CLASS'S TABLE t AND A WORLD w: which cells tell the same. π: the slots of the jobs by their numbers -/
/-- the k-th cause, of three bits each -/
def cz (x : Int32) (k : Nat) : Int32 := (x >>> ((nI k * 3) &&& 31)) &&& 7
/-- what the class says of field f of a version (as the model numbers the fields) -/
def cJ (S : sSt) (q v : Nat) : Nat → Int32
  | 0 => S.1 21 q 7
  | 1 => S.1 21 q 8
  | 2 => S.1 21 q 9
  | 3 => S.1 22 v 0
  | 4 => S.1 21 q 10
  | 5 => S.1 22 v 1
  | 6 => S.1 22 v 2
  | 7 => S.1 22 v 3
  | 8 => S.1 22 v 5
  | 9 => S.1 22 v 6
  | 10 => S.1 22 v 7
  | 11 => S.1 21 q 11
  | 12 => S.1 21 q 12
  | k + 13 => cz (S.1 22 v 4) k
def VR (S : sSt) (q v : Nat) (w : Wd) (p : Nat) : Prop := ∀ f, f < 22 → cJ S q v f = w (p + f)
def svb (S : sSt) (q k : Nat) : Bool := decide (((S.1 21 q 3) >>> (nI k &&& 31)) &&& 1 = 1)
def JR (S : sSt) (q : Nat) (w : Wd) (j : Nat) : Prop := S.1 21 q 6 = num w j ∧ S.1 21 q 5 = w (21 + 47 * j + 1) ∧ S.1 21 q 4 = lkr w j ∧ (w (21 + 47 * j + 1) = 1 → VR S q (6 * q) w (21 + 47 * j + 3)) ∧ (lkr w j ≠ -1 → VR S q (6 * q + 1) w (21 + 47 * j + 25))
def svp (s k j : Nat) : Nat := 1589 + 552 * (4 * s + k) + 23 * j
/-- the savepoints of the session that locks job q, slot j -/
def JZ (S : sSt) (q : Nat) (w : Wd) (j ns : Nat) : Prop := ∀ s k, s < ns → k < 4 → lkr w j = nI s → nI k < w (1149 + 27 * s + 3) → (svb S q k = decide (w (svp s k j) = 1)) ∧ (svb S q k = true → VR S q (6 * q + 2 + k) w (svp s k j + 1))
def zRef (S : sSt) (t : Nat) : Prop := (∀ i, i < 24 → S.2 14 t i / 24 = t) ∧ ∀ i j, i < 24 → j < 24 → S.2 14 t i = S.2 14 t j → i = j
def zSca (S : sSt) (t : Nat) (w : Wd) : Prop := (∀ f, f < 9 → S.1 13 t (7 + f) = w f) ∧ (∀ g, g < 5 → S.1 18 t g = w (9 + g)) ∧ (∀ g, g < 6 → S.1 17 t g = w (15 + g))
/-- the class's sign of a term, as the model's -/
def sgc (c : Int32) (x : Int32) : Prop := (c = 61 ∧ x = 0) ∨ (c = 33 ∧ x = 1) ∨ (c = 60 ∧ x = 2) ∨ (c = 62 ∧ x = 3)
/-- a query of the class (number q) as it lies from p on -/
def QR (S : sSt) (q : Nat) (w : Wd) (p : Nat) : Prop := S.1 3 q 5 = w p ∧ S.1 3 q 6 = w (p + 1) ∧ S.1 3 q 7 = w (p + 14) ∧ (∀ k, k < 4 → nI k < w (p + 1) → S.1 4 q k = w (p + 2 + 3 * k) ∧ sgc (S.1 5 q k) (w (p + 2 + 3 * k + 1)) ∧ S.1 6 q k = w (p + 2 + 3 * k + 2)) ∧ (∀ k, k < 4 → nI k < w (p + 14) → S.1 7 q k = w (p + 15 + 2 * k) ∧ S.1 8 q k = w (p + 15 + 2 * k + 1) ∧ (S.1 8 q k = 0 ∨ S.1 8 q k = 1))
def SR (S : sSt) (t : Nat) (w : Wd) (s : Nat) : Prop := S.1 24 (4 * t + s) 1 = w (1149 + 27 * s) ∧ S.1 24 (4 * t + s) 2 = w (1149 + 27 * s + 1) ∧ S.1 24 (4 * t + s) 3 = w (1149 + 27 * s + 2) ∧ S.1 24 (4 * t + s) 4 = w (1149 + 27 * s + 3) ∧ QR S (4 * t + s + 1) w (1149 + 27 * s + 4)
def zSes (S : sSt) (t : Nat) (w : Wd) (ns : Nat) : Prop := ∀ s, s < ns → SR S t w s
def zPln (S : sSt) (t : Nat) (w : Wd) (np : Nat) : Prop := ∀ p, p < np → ∀ f, f < 8 → S.1 25 (4 * t + p) f = w (1257 + 8 * p + f)
def zLog (S : sSt) (t : Nat) (w : Wd) (nl : Nat) : Prop := ∃ x, x < 60 ∧ S.1 19 t 1 = nI x ∧ S.1 19 t 2 = nI nl ∧ (nl < 60 → x = 0) ∧ ∀ c, c < nl → ∀ f, f < 5 → S.1 20 t ((x + c) % 60 * 5 + f) = w (1289 + 5 * (nl - 1 - c) + f)
def zJob (S : sSt) (t : Nat) (w : Wd) (π : List Nat) (ns : Nat) : Prop := ∀ i, i < π.length → JR S (S.2 14 t i) w (pl π i) ∧ JZ S (S.2 14 t i) w (pl π i) ns
/-- the order of the jobs -/
def zOrd (w : Wd) (π : List Nat) : Prop := (∀ j, j ∈ π ↔ (j < 24 ∧ lie w j = true)) ∧ π.Pairwise (fun a b => num w a < num w b)
def zT (S : sSt) (t : Nat) (w : Wd) (π : List Nat) (ns np nl : Nat) : Prop := S.1 13 t 6 = nI π.length ∧ zRef S t ∧ zJob S t w π ns ∧ zSca S t w ∧ zSes S t w ns ∧ zPln S t w np ∧ zLog S t w nl
/-- whose cells are whose -/
def ow (t k i : Nat) : Prop := (9 ≤ k ∧ k ≤ 12) ∨ ((k = 13 ∨ k = 17 ∨ k = 18 ∨ k = 19 ∨ k = 20) ∧ i = t) ∨ (k = 21 ∧ i / 24 = t) ∨ (k = 22 ∧ i / 144 = t) ∨ ((k = 24 ∨ k = 25) ∧ i / 4 = t) ∨ (3 ≤ k ∧ k ≤ 8 ∧ 1 ≤ i ∧ (i - 1) / 4 = t)
def KP (t : Nat) (S S' : sSt) : Prop := (∀ k i, ¬ ow t k i → S'.1 k i = S.1 k i) ∧ (∀ k i, ¬ (k = 14 ∧ i = t) → S'.2 k i = S.2 k i)
theorem KP.rfl {t : Nat} {S : sSt} : KP t S S := ⟨fun _ _ _ => Eq.refl _, fun _ _ _ => Eq.refl _⟩
theorem KP.tr {t : Nat} {S S1 S2 : sSt} (h : KP t S S1) (h2 : KP t S1 S2) : KP t S S2 := ⟨fun k i q => (h2.1 k i q).trans (h.1 k i q), fun k i q => (h2.2 k i q).trans (h.2 k i q)⟩
theorem KP.i {t k i j : Nat} {S S1 : sSt} {v : Int32} (h : KP t S S1) (ho : ow t k i) : KP t S (uI S1 k i j v) := by
  refine h.tr ⟨fun k' i' q => ?_, fun _ _ _ => Eq.refl _⟩
  exact uI_other (fun c => q (by rw [c.1, c.2]; exact ho))
theorem KP.a {t k i : Nat} {S S1 : sSt} {f : Nat → Int32} (h : KP t S S1) (ho : ow t k i) : KP t S (uA S1 k i f) := by
  refine h.tr ⟨fun k' i' q => ?_, fun _ _ _ => Eq.refl _⟩
  exact uA_other (fun c => q (by rw [c.1, c.2]; exact ho))
theorem KP.r {t j v : Nat} {S S1 : sSt} (h : KP t S S1) : KP t S (uR S1 14 t j v) := by
  refine h.tr ⟨fun _ _ _ => Eq.refl _, fun k' i' q => ?_⟩
  exact uR_other q
section ZR
variable {S S' : sSt} {t : Nat} {w w' : Wd} {π : List Nat} {ns np nl : Nat}
theorem zT.size (h : zT S t w π ns np nl) : S.1 13 t 6 = nI π.length := h.1
theorem zT.ref (h : zT S t w π ns np nl) : zRef S t := h.2.1
theorem zT.job (h : zT S t w π ns np nl) : zJob S t w π ns := h.2.2.1
theorem zT.sca (h : zT S t w π ns np nl) : zSca S t w := h.2.2.2.1
theorem zT.ses (h : zT S t w π ns np nl) : zSes S t w ns := h.2.2.2.2.1
theorem zT.pln (h : zT S t w π ns np nl) : zPln S t w np := h.2.2.2.2.2.1
theorem zT.log (h : zT S t w π ns np nl) : zLog S t w nl := h.2.2.2.2.2.2
theorem zOrd.lt (h : zOrd w π) {j : Nat} (hj : j ∈ π) : j < 24 := ((h.1 j).mp hj).1
theorem zOrd.lies (h : zOrd w π) {j : Nat} (hj : j ∈ π) : lie w j = true := ((h.1 j).mp hj).2
theorem getD_mem {i : Nat} (hi : i < π.length) : pl π i ∈ π := by
  unfold pl
  rw [List.getD_eq_getElem?_getD, List.getElem?_eq_getElem hi]; exact List.getElem_mem hi
theorem zOrd.at (h : zOrd w π) {i : Nat} (hi : i < π.length) : pl π i < 24 := h.lt (getD_mem hi)
theorem zOrd.la (h : zOrd w π) {i : Nat} (hi : i < π.length) : lie w (pl π i) = true := h.lies (getD_mem hi)
theorem zOrd.sorted (h : zOrd w π) {i i' : Nat} (hi : i < i') (hi' : i' < π.length) : num w (pl π i) < num w (pl π i') := by
  have h2 := List.pairwise_iff_getElem.mp h.2 i i' (by omega) hi' hi
  unfold pl
  rw [List.getD_eq_getElem?_getD, List.getD_eq_getElem?_getD, List.getElem?_eq_getElem hi', List.getElem?_eq_getElem (by omega)]
  exact h2
theorem zOrd.nodup (h : zOrd w π) : π.Nodup := by
  refine List.Pairwise.imp (fun {a b} q => ?_) h.2
  intro e
  rw [e] at q
  exact (Int32.lt_irrefl q).elim
theorem zOrd.perm (h : zOrd w π) : π.Perm ((List.range' 0 24).filter (fun j => lie w j)) := by
  rw [List.perm_ext_iff_of_nodup h.nodup (List.Pairwise.filter _ List.nodup_range')]
  intro a
  rw [h.1 a, List.mem_filter, List.mem_range'_1]
  simp
theorem zOrd.len (h : zOrd w π) : π.length ≤ 24 := by
  rw [h.perm.length_eq]
  exact Nat.le_trans (List.length_filter_le _ _) (by simp)
/-- counted over the order or over the slots -/
theorem zOrd.cnt (h : zOrd w π) (P : Nat → Bool) : π.countP P = (List.range' 0 24).countP (fun j => lie w j && P j) := by
  rw [h.perm.countP_eq, List.countP_filter]
  refine List.countP_congr fun x _ => ?_
  rw [Bool.and_comm]
theorem zOrd.any (h : zOrd w π) (P : Nat → Bool) : π.any P = (List.range' 0 24).any (fun j => lie w j && P j) := by
  rw [Bool.eq_iff_iff]
  simp only [List.any_eq_true, Bool.and_eq_true]
  constructor
  · rintro ⟨x, hx, hp⟩
    have := (h.1 x).mp hx
    exact ⟨x, by simpa using this.1, this.2, hp⟩
  · rintro ⟨x, hx, hl, hp⟩
    exact ⟨x, (h.1 x).mpr ⟨by simpa using hx, hl⟩, hp⟩
theorem any_pl (π : List Nat) (P : Nat → Bool) : (List.range' 0 π.length).any (fun i => P (pl π i)) = π.any P := by
  have h : π.any P = ((List.range' 0 π.length).map (fun i => pl π i)).any P := by rw [range_map]
  rw [h, List.any_map]
  exact congrArg _ (funext fun _ => Eq.refl _)
theorem zOrd.inj (h : zOrd w π) {i i' : Nat} (hi : i < π.length) (hi' : i' < π.length) (e : pl π i = pl π i') : i = i' := by
  rcases Nat.lt_trichotomy i i' with q | q | q
  · have := h.sorted q hi'
    rw [e] at this
    exact (Int32.lt_irrefl this).elim
  · exact q
  · have := h.sorted q hi
    rw [e] at this
    exact (Int32.lt_irrefl this).elim
theorem zOrd.pos (h : zOrd w π) {j : Nat} (hj : j < 24) (hl : lie w j = true) : ∃ i, i < π.length ∧ pl π i = j := by
  obtain ⟨i, hi, he⟩ := List.mem_iff_getElem.mp ((h.1 j).mpr ⟨hj, hl⟩)
  exact ⟨i, hi, by unfold pl; rw [List.getD_eq_getElem?_getD, List.getElem?_eq_getElem hi]; exact he⟩
/-- of another table nothing is changed -/
theorem ow_ne {t t' k i : Nat} (h : t ≠ t') (hk : 13 ≤ k ∨ 3 ≤ k ∧ k ≤ 8) (h1 : ow t' k i) : ¬ ow t k i := by
  unfold ow at *
  omega
theorem zT.kp (h : zT S t w π ns np nl) {t' : Nat} (ht : t ≠ t') (hk : KP t' S S') (hn : ns ≤ 4) (hp : np ≤ 4) (hl : π.length ≤ 24) : zT S' t w π ns np nl := by
  have e13 : S'.1 13 t = S.1 13 t := hk.1 _ _ (by unfold ow; omega)
  have e17 : S'.1 17 t = S.1 17 t := hk.1 _ _ (by unfold ow; omega)
  have e18 : S'.1 18 t = S.1 18 t := hk.1 _ _ (by unfold ow; omega)
  have e19 : S'.1 19 t = S.1 19 t := hk.1 _ _ (by unfold ow; omega)
  have e20 : S'.1 20 t = S.1 20 t := hk.1 _ _ (by unfold ow; omega)
  have e14 : S'.2 14 t = S.2 14 t := hk.2 _ _ (by omega)
  obtain ⟨h1, h2, h3, h4, h5, h6, h7⟩ := h
  have e21 : ∀ i, i < 24 → S'.1 21 (S.2 14 t i) = S.1 21 (S.2 14 t i) := fun i hi => hk.1 _ _ (by have := h2.1 i hi; unfold ow; omega)
  have e22 : ∀ i, i < 24 → ∀ d, d < 6 → S'.1 22 (6 * (S.2 14 t i) + d) = S.1 22 (6 * (S.2 14 t i) + d) := fun i hi d hd => hk.1 _ _ (by have := h2.1 i hi; unfold ow; omega)
  have eJ : ∀ i, i < 24 → ∀ d, d < 6 → ∀ f, cJ S' (S.2 14 t i) (6 * (S.2 14 t i) + d) f = cJ S (S.2 14 t i) (6 * (S.2 14 t i) + d) f := by
    intro i hi d hd f
    unfold cJ
    rw [e21 i hi, e22 i hi d hd]
  refine ⟨by rw [e13]; exact h1, by unfold zRef; rw [e14]; exact h2, ?_, by unfold zSca; rw [e13, e17, e18]; exact h4, ?_, ?_, by unfold zLog; rw [e19, e20]; exact h7⟩
  · intro i hi
    have hi4 : i < 24 := by omega
    obtain ⟨⟨a1, a2, a3, a4, a5⟩, a6⟩ := h3 i hi
    rw [e14]
    refine ⟨⟨by rw [e21 i hi4]; exact a1, by rw [e21 i hi4]; exact a2, by rw [e21 i hi4]; exact a3, fun c f hf => (eJ i hi4 0 (by omega) f).trans (a4 c f hf), fun c f hf => (eJ i hi4 1 (by omega) f).trans (a5 c f hf)⟩, ?_⟩
    intro s k hs hk4 hlk hsv
    obtain ⟨b1, b2⟩ := a6 s k hs hk4 hlk hsv
    have es : svb S' (S.2 14 t i) k = svb S (S.2 14 t i) k := by unfold svb; rw [e21 i hi4]
    rw [es]
    refine ⟨b1, fun c f hf => ?_⟩
    have := eJ i hi4 (2 + k) (by omega) f
    rw [← Nat.add_assoc] at this
    exact this.trans (b2 c f hf)
  · intro s hs
    obtain ⟨a1, a2, a3, a4, a5⟩ := h5 s hs
    have e24 : S'.1 24 (4 * t + s) = S.1 24 (4 * t + s) := hk.1 _ _ (by unfold ow; omega)
    refine ⟨by rw [e24]; exact a1, by rw [e24]; exact a2, by rw [e24]; exact a3, by rw [e24]; exact a4, ?_⟩
    have e3 : ∀ k, 3 ≤ k → k ≤ 8 → S'.1 k (4 * t + s + 1) = S.1 k (4 * t + s + 1) := fun k q1 q2 => hk.1 _ _ (by unfold ow; omega)
    unfold QR
    rw [e3 3 (by omega) (by omega), e3 4 (by omega) (by omega), e3 5 (by omega) (by omega), e3 6 (by omega) (by omega), e3 7 (by omega) (by omega), e3 8 (by omega) (by omega)]
    exact a5
  · intro p hp' f hf
    have e25 : S'.1 25 (4 * t + p) = S.1 25 (4 * t + p) := hk.1 _ _ (by unfold ow; omega)
    rw [e25]
    exact h6 p hp' f hf
end ZR
end PU4
