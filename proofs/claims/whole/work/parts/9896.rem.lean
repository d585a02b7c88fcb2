section PU34
/-! A JOB GOES -/
theorem pl_erase {π : List Nat} {i x : Nat} : pl (π.eraseIdx i) x = if x < i then pl π x else pl π (x + 1) := by
  unfold pl
  rw [List.getD_eq_getElem?_getD, List.getElem?_eraseIdx]
  split <;> rw [List.getD_eq_getElem?_getD]
theorem len_erase {π : List Nat} {i : Nat} (hi : i < π.length) : (π.eraseIdx i).length = π.length - 1 := List.length_eraseIdx_of_lt hi
theorem mem_pl {π : List Nat} {j : Nat} : j ∈ π ↔ ∃ x, x < π.length ∧ pl π x = j := by
  constructor
  · intro h
    obtain ⟨i, hi, he⟩ := List.mem_iff_getElem.mp h
    exact ⟨i, hi, by unfold pl; rw [List.getD_eq_getElem?_getD, List.getElem?_eq_getElem hi]; exact he⟩
  · rintro ⟨x, hx, rfl⟩; exact getD_mem hx
theorem uR_at {S : sSt} {k i j v : Nat} : (uR S k i j v).2 k i j = v := by simp [uR]
theorem uR_nc {S : sSt} {k i j v f : Nat} (h : f ≠ j) : (uR S k i j v).2 k i f = S.2 k i f := by simp [uR, h]
section RM
variable {S S' : sSt} {t : Nat} {w w' : Wd} {π : List Nat} {ns np cm nl i : Nat}
theorem zOrd.rem (hO : zOrd w π) (hi : i < π.length) (hw : ∀ j, j < 24 → j ≠ pl π i → num w' j = num w j) (h0 : num w' (pl π i) = -1) : zOrd w' (π.eraseIdx i) := by
  have hne : ∀ {x}, x < π.length → x ≠ i → pl π x ≠ pl π i := fun hx h e => h (hO.inj hx hi e)
  have hmem : ∀ j, j ∈ π.eraseIdx i ↔ ∃ x, x < π.length ∧ x ≠ i ∧ pl π x = j := by
    intro j
    rw [mem_pl, len_erase hi]
    constructor
    · rintro ⟨x, hx, e⟩
      rw [pl_erase] at e
      by_cases c : x < i
      · rw [if_pos c] at e; exact ⟨x, by omega, by omega, e⟩
      · rw [if_neg c] at e; exact ⟨x + 1, by omega, by omega, e⟩
    · rintro ⟨x, hx, hxi, e⟩
      by_cases c : x < i
      · exact ⟨x, by omega, by rw [pl_erase, if_pos c]; exact e⟩
      · exact ⟨x - 1, by omega, by rw [pl_erase, if_neg (by omega), show x - 1 + 1 = x from by omega]; exact e⟩
  refine ⟨fun j => ?_, ?_⟩
  · rw [hmem]
    constructor
    · rintro ⟨x, hx, hxi, rfl⟩
      refine ⟨hO.at hx, ?_⟩
      have := hO.la hx
      unfold lie at *
      rw [hw _ (hO.at hx) (hne hx hxi)]; exact this
    · rintro ⟨h1, h2⟩
      have hji : j ≠ pl π i := fun e => by unfold lie at h2; rw [e, h0] at h2; simp at h2
      obtain ⟨x, hx, e⟩ := hO.pos h1 (by unfold lie at *; rw [← hw j h1 hji]; exact h2)
      exact ⟨x, hx, fun q => hji (by rw [← e, q]), e⟩
  · refine (hO.2.sublist (List.eraseIdx_sublist π i)).imp_of_mem (fun {a b} ha hb q => ?_)
    obtain ⟨x, hx, hxi, rfl⟩ := (hmem a).mp ha
    obtain ⟨y, hy, hyi, rfl⟩ := (hmem b).mp hb
    rw [hw _ (hO.at hx) (hne hx hxi), hw _ (hO.at hy) (hne hy hyi)]; exact q
theorem rem_at {f : Nat → Nat} {x L v i : Nat} (h : v = if i ≤ x ∧ x + 1 < L then f (x + 1) else if x + 1 = L then f i else f x) (hi : i < L) (hL : L ≤ 24) : ∃ y, v = f y ∧ (x < 24 → y < 24) ∧ ((i ≤ x ∧ x + 1 < L ∧ y = x + 1) ∨ (x + 1 = L ∧ y = i) ∨ (¬ (i ≤ x ∧ x + 1 < L) ∧ x + 1 ≠ L ∧ y = x)) := by
  split at h
  · exact ⟨x + 1, h, fun _ => by omega, Or.inl ⟨by omega, by omega, rfl⟩⟩
  · split at h
    · exact ⟨i, h, fun _ => by omega, Or.inr (Or.inl ⟨by omega, rfl⟩)⟩
    · exact ⟨x, h, fun q => q, Or.inr (Or.inr ⟨by assumption, by assumption, rfl⟩)⟩
theorem zT.rem (hT : zT S t w π ns np nl) (hO : zOrd w π) (hn : ns ≤ 4) (hp : np ≤ 4) (hl : nl ≤ 60) (hi : i < π.length) (hS : ∀ k a, ¬ (k = 13 ∧ a = t) → ¬ (k = 21 ∧ a = S.2 14 t i) → S'.1 k a = S.1 k a) (h13 : ∀ f, f ≠ 6 → S'.1 13 t f = S.1 13 t f) (h6 : S'.1 13 t 6 = nI (π.length - 1)) (h14 : ∀ x, S'.2 14 t x = if i ≤ x ∧ x + 1 < π.length then S.2 14 t (x + 1) else if x + 1 = π.length then S.2 14 t i else S.2 14 t x) (hw : ∀ x, ¬ (21 + 47 * (pl π i) ≤ x ∧ x < 68 + 47 * (pl π i)) → w' x = w x) : zT S' t w' (π.eraseIdx i) ns np nl := by
  have hj4 := hO.at hi
  have hlen := hO.len
  refine ⟨by rw [h6, len_erase hi], ⟨fun x hx => ?_, fun x y hx hy e => ?_⟩, ?_, hT.sca.c (fun f _ => h13 _ (by omega)) (hS _ _ (by omega) (by omega)) (hS _ _ (by omega) (by omega)) (fun x _ _ => hw x (by omega)), hT.ses.c hn (fun s _ => hS _ _ (by omega) (by omega)) (fun s _ k _ _ => hS _ _ (by omega) (by omega)) (fun x _ _ => hw x (by omega)), hT.pln.c hp (fun p _ => hS _ _ (by omega) (by omega)) (fun x _ _ => hw x (by omega)), hT.log.c hl (hS _ _ (by omega) (by omega)) (hS _ _ (by omega) (by omega)) (fun x _ _ => hw x (by omega))⟩
  · rw [h14]
    split
    · exact hT.ref.1 _ (by omega)
    · split
      · exact hT.ref.1 _ (by omega)
      · exact hT.ref.1 _ hx
  · obtain ⟨x', x1, x2, x3⟩ := rem_at (f := S.2 14 t) (h14 x) hi (by omega)
    obtain ⟨y', y1, y2, y3⟩ := rem_at (f := S.2 14 t) (h14 y) hi (by omega)
    rw [x1, y1] at e
    have := hT.ref.2 _ _ (by omega) (by omega) e
    omega
  · intro x hx
    rw [len_erase hi] at hx
    have e : ∃ y, y < π.length ∧ y ≠ i ∧ S'.2 14 t x = S.2 14 t y ∧ pl (π.eraseIdx i) x = pl π y := by
      rw [h14, pl_erase]
      by_cases c : x < i
      · exact ⟨x, by omega, by omega, by rw [if_neg (by omega), if_neg (by omega)], by rw [if_pos c]⟩
      · exact ⟨x + 1, by omega, by omega, by rw [if_pos (by omega)], by rw [if_neg c]⟩
    obtain ⟨y, hy, hyi, e1, e2⟩ := e
    rw [e1, e2]
    have hq : S.2 14 t y ≠ S.2 14 t i := fun q => hyi (hT.ref.2 y i (by omega) (by omega) q)
    have hj : pl π y ≠ pl π i := fun q => hyi (hO.inj hy hi q)
    obtain ⟨a, b⟩ := hT.job y hy
    exact ⟨a.c (hS _ _ (by omega) (by omega)) (fun d hd => hS _ _ (by omega) (by omega)) (fun x q1 q2 => hw x (by omega)), b.c (hO.at hy) hn (hS _ _ (by omega) (by omega)) (fun d hd => hS _ _ (by omega) (by omega)) (hw _ (by omega)) (fun s _ => hw _ (by omega)) (fun x _ _ => hw x (by omega))⟩
theorem WF.rem (h : WF w ns np cm nl) {j : Nat} (hj : j < 24) (hw : ∀ x, ¬ (21 + 47 * j ≤ x ∧ x < 68 + 47 * j) → w' x = w x) (h0 : num w' j = -1) : WF w' ns np cm nl := h.slot hw hj (Or.inl h0) (Or.inr h0)
theorem x_removeAt {N : Nat} (h6 : S.1 13 t 6 = nI N) (hN : N ≤ 24) (hi : i < N) {k : sSt → Prop} (hk : ∀ S', (∀ k a, ¬ (k = 13 ∧ a = t) → S'.1 k a = S.1 k a) → (∀ f, f ≠ 6 → S'.1 13 t f = S.1 13 t f) → S'.1 13 t 6 = nI (N - 1) → (∀ x, S'.2 14 t x = if i ≤ x ∧ x + 1 < N then S.2 14 t (x + 1) else if x + 1 = N then S.2 14 t i else S.2 14 t x) → (∀ k a, ¬ (k = 14 ∧ a = t) → S'.2 k a = S.2 k a) → k S') : F_X6_removeAt t (nI i) S k := by
  rw [F_X6_removeAt, h6]
  refine ⟨fun c => absurd c (nI_pos (by omega)), fun _ => ⟨fun _ => ?_, fun c => absurd (nI_lt hi (by omega)) c⟩⟩
  rw [ix_n (by omega) (by omega)]
  suffices hh : ∀ r x m (S1 : sSt), x + r + 1 = N → i ≤ x → r < m → S1.1 = S.1 → (∀ y, S1.2 14 t y = if i ≤ y ∧ y < x then S.2 14 t (y + 1) else S.2 14 t y) → (∀ k a, ¬ (k = 14 ∧ a = t) → S1.2 k a = S.2 k a) → B_X6_removeAt_22 m t (S.2 14 t i) (nI x) S1 k from
    hh (N - 1 - i) i fuel S (by omega) (by omega) (fuel_gt (by omega)) rfl (fun y => by rw [if_neg (by omega)]) (fun _ _ _ => rfl)
  intro r
  induction r with
  | zero =>
    intro x m S1 hx hix hm e1 e2 e3
    obtain ⟨m, rfl⟩ : ∃ q, m = q + 1 := ⟨m - 1, by omega⟩
    have e : N = x + 1 := by omega
    have h61 : S1.1 13 t 6 = nI N := by rw [e1]; exact h6
    have hc : nI N ≤ nI x + 1 := by rw [show (1 : Int32) = nI 1 from rfl, nI_add]; exact nI_le (by omega) (by omega)
    simp only [B_X6_removeAt_22_s, Bb_X6_removeAt_22, h61, hc, true_implies, not_true_eq_false, false_implies, and_true]
    rintro S7 rfl
    have h7 : nI N - 1 = nI (N - 1) := by rw [show (1 : Int32) = nI 1 from rfl, pk_sub (by omega)]
    rw [uI_at, h7, ix_n (by omega) (by omega)]
    rintro S10 rfl
    refine hk _ (fun k a q => ?_) (fun f hf => ?_) ?_ (fun y => ?_) (fun k a q => ?_)
    · show (uI S1 13 t 6 (nI (N - 1))).1 k a = S.1 k a
      rw [uI_other q, e1]
    · show (uI S1 13 t 6 (nI (N - 1))).1 13 t f = S.1 13 t f
      rw [uI_nc (by omega), e1]
    · exact uI_at
    · by_cases c : y = N - 1
      · rw [c, uR_at, if_neg (by omega), if_pos (by omega)]
      · rw [uR_nc (by omega)]
        show S1.2 14 t y = _
        rw [e2]
        by_cases c2 : i ≤ y ∧ y < x
        · rw [if_pos c2, if_pos (by omega)]
        · rw [if_neg c2, if_neg (by omega), if_neg (by omega)]
    · rw [uR_other q]; exact e3 k a q
  | succ r ih =>
    intro x m S1 hx hix hm e1 e2 e3
    obtain ⟨m, rfl⟩ : ∃ q, m = q + 1 := ⟨m - 1, by omega⟩
    have h61 : S1.1 13 t 6 = nI N := by rw [e1]; exact h6
    have ex : nI x + 1 = nI (x + 1) := nI_1 x
    have hc : ¬ nI N ≤ nI (x + 1) := nI_ge (by omega) (by omega)
    simp only [B_X6_removeAt_22_s, Bb_X6_removeAt_22, h61, ex, hc, false_implies, true_and, not_false_eq_true, true_implies]
    rw [ix_n (by omega) (by omega), ix_n (by omega) (by omega)]
    rintro S16 rfl
    rw [forall_eq]
    refine ih (x + 1) m _ (by omega) (by omega) (by omega) e1 (fun y => ?_) (fun k a q => ?_)
    · by_cases c : y = x
      · rw [c, uR_at, if_pos (by omega), e2, if_neg (by omega)]
      · rw [uR_nc (by omega), e2]
        by_cases c2 : i ≤ y ∧ y < x
        · rw [if_pos c2, if_pos (by omega)]
        · rw [if_neg c2, if_neg (by omega)]
    · rw [uR_other q]; exact e3 k a q
def zC (S : sSt) (t : Nat) (w : Wd) (π : List Nat) (ns np cm nl : Nat) : Prop := zT S t w π ns np nl ∧ zOrd w π ∧ WF w ns np cm nl
theorem x_remove (h : zC S t w π ns np cm nl) (hi : i < π.length) (hw : ∀ x, ¬ (21 + 47 * (pl π i) ≤ x ∧ x < 68 + 47 * (pl π i)) → w' x = w x) (h0 : num w' (pl π i) = -1) {S1 : sSt} (hS1 : ∀ k a, ¬ (k = 21 ∧ a = S.2 14 t i) → S1.1 k a = S.1 k a) (h21 : S1.2 = S.2) {k : sSt → Prop} (hk : ∀ S', zC S' t w' (π.eraseIdx i) ns np cm nl → KP t S S' → k S') : F_X6_removeAt t (nI i) S1 k := by
  obtain ⟨hT, hO, hW⟩ := h
  have hlen := hO.len
  have hr := hT.ref.1 i (by omega)
  refine x_removeAt (N := π.length) (by rw [hS1 13 t (by omega)]; exact hT.size) hlen hi (fun S' q1 q2 q3 q4 q5 => hk S' ⟨hT.rem hO hW.hns.1 hW.hnp.1 hW.hnl.1 hi (fun k a c1 c2 => (q1 k a c1).trans (hS1 k a c2)) (fun f hf => by rw [q2 f hf, hS1 13 t (by omega)]) q3 (fun x => by rw [q4, h21]) hw, hO.rem hi (fun j _ hj => hw _ (by omega)) h0, hW.rem (hO.at hi) hw h0⟩ ⟨fun k a c => ?_, fun k a c => by rw [q5 k a c, h21]⟩)
  rw [q1 k a (fun z => c (by unfold ow; omega)), hS1 k a (fun z => c (by unfold ow; omega))]
theorem wfr_out {j x : Nat} (hx : ¬ (21 + 47 * j ≤ x ∧ x < 68 + 47 * j)) : wfr w j x = w x := by
  unfold wfr
  split
  · exact up_ne (by omega)
  · rw [up_ne (by omega), up_ne (by omega)]
theorem wfr_o {j x : Nat} (h0 : x ≠ 21 + 47 * j) (h2 : x ≠ 21 + 47 * j + 2) : wfr w j x = w x := by
  unfold wfr
  split
  · exact up_ne h2
  · rw [up_ne h0, up_ne h2]
theorem wfr_lkr {j : Nat} : lkr (wfr w j) j = -1 := by
  unfold lkr wfr
  split
  · exact up_eq
  · rw [up_ne (by omega), up_eq]
theorem wfr_num1 {j : Nat} (h : isin w j = true) : num (wfr w j) j = num w j := by
  unfold wfr; rw [if_pos h]; exact up_ne (by omega)
theorem wfr_num0 {j : Nat} (h : isin w j = false) : num (wfr w j) j = -1 := by
  unfold wfr; rw [if_neg (by rw [h]; decide)]; exact up_eq
def fpi (w : Wd) (π : List Nat) (i : Nat) : List Nat := if isin w (pl π i) then π else π.eraseIdx i
theorem fpi_lo {x : Nat} (hx : x < i) : pl (fpi w π i) x = pl π x := by
  unfold fpi
  split
  · rfl
  · rw [pl_erase, if_pos hx]
theorem fpi_len (hi : i < π.length) : i ≤ (fpi w π i).length := by
  unfold fpi
  split
  · omega
  · rw [len_erase hi]; omega
theorem x_release (h : zC S t w π ns np cm nl) (hi : i < π.length) {k : sSt → Prop} (hk : ∀ S', zC S' t (wfr w (pl π i)) (fpi w π i) ns np cm nl → KP t S S' → k S') : F_X6_release t (nI i) S k := by
  have hT := h.1
  have hO := h.2.1
  have hW := h.2.2
  have hlen := hO.len
  have hj4 := hO.at hi
  have hr := hT.ref.1 i (by omega)
  rw [F_X6_release, ix_n (by omega) (by omega)]
  rintro S4 e4
  have o : ∀ k a, ¬ (k = 21 ∧ a = S.2 14 t i) → S4.1 k a = S.1 k a := fun k a c => by rw [e4]; exact uI_other c
  have r4 : S4.2 = S.2 := by rw [e4]; rfl
  have f21 : ∀ f, f ≠ 4 → S4.1 21 (S.2 14 t i) f = S.1 21 (S.2 14 t i) f := fun f hf => by rw [e4]; exact uI_nc (by omega)
  have f4 : S4.1 21 (S.2 14 t i) 4 = -1 := by rw [e4]; exact uI_at
  have kp : KP t S S4 := by rw [e4]; exact KP.rfl.i (by unfold ow; omega)
  obtain ⟨a1, a2, a3, a4, a5⟩ := (hT.job i hi).1
  rw [r4, f21 5 (by omega), a2]
  have q := sto_is hW hj4 (hO.la hi)
  refine ⟨fun c => ?_, fun c => ?_⟩
  · have hin : isin w (pl π i) = true := by
      cases z : isin w (pl π i)
      · exact absurd (q.mpr z) c
      · rfl
    have e : fpi w π i = π := by unfold fpi; rw [if_pos hin]
    refine hk S4 ?_ kp
    rw [e]
    refine ⟨hT.upd hO hW.hns.1 hW.hnp.1 hW.hnl.1 hi (fun k a c1 _ => o k a c1) r4 (fun x hx => wfr_out hx) ?_ ?_, hO.c (fun j hj => ?_), hW.slot (fun x hx => wfr_out hx) hj4 ?_ (Or.inl (wfr_num1 hin))⟩
    · refine ⟨by rw [f21 6 (by omega), wfr_num1 hin]; exact a1, by rw [f21 5 (by omega), wfr_o (by omega) (by omega)]; exact a2, by rw [f4, wfr_lkr], fun z f hf => ?_, fun z => absurd wfr_lkr z⟩
      rw [wfr_o (by omega) (by omega)] at z
      rw [wfr_o (by omega) (by omega)]
      have e22 := o 22 (6 * S.2 14 t i) (by omega)
      have : cJ S4 (S.2 14 t i) (6 * S.2 14 t i) f = cJ S (S.2 14 t i) (6 * S.2 14 t i) f := by
        rcases (show f = 0 ∨ f = 1 ∨ f = 2 ∨ f = 3 ∨ f = 4 ∨ f = 5 ∨ f = 6 ∨ f = 7 ∨ f = 8 ∨ f = 9 ∨ f = 10 ∨ f = 11 ∨ f = 12 ∨ ∃ y, f = y + 13 by rcases (show f < 13 ∨ 13 ≤ f by omega) with g | g <;> first | omega | exact Or.inr (Or.inr (Or.inr (Or.inr (Or.inr (Or.inr (Or.inr (Or.inr (Or.inr (Or.inr (Or.inr (Or.inr (Or.inr ⟨f - 13, by omega⟩))))))))))))) with rfl | rfl | rfl | rfl | rfl | rfl | rfl | rfl | rfl | rfl | rfl | rfl | rfl | ⟨y, rfl⟩ <;> simp only [cJ] <;> first | rw [e22] | rw [f21 _ (by omega)]
      rw [this]; exact a4 z f hf
    · intro s k hs' hk' hlk' _
      rw [wfr_lkr] at hlk'
      exact absurd hlk'.symm (ni_m1 (by have := hW.hns.1; omega))
    · by_cases z : j = pl π i
      · rw [z]; exact wfr_num1 hin
      · exact wfr_out (by omega)
    · rcases hW.job (pl π i) hj4 with z | ⟨z1, z2, z3, z4, z5, z6⟩
      · exact Or.inl (by rw [wfr_num1 hin]; exact z)
      · have h1 := isin_1 hin
        refine Or.inr ⟨by rw [wfr_num1 hin]; exact z1, by rw [wfr_o (by omega) (by omega)]; exact z2, Or.inl (by rw [wfr_o (by omega) (by omega)]; exact h1), Or.inl wfr_lkr, fun _ => (z5 h1).c (fun f hf => wfr_o (by omega) (by omega)), fun z => absurd wfr_lkr z⟩
  · have hin : isin w (pl π i) = false := q.mp c
    have e : fpi w π i = π.eraseIdx i := by unfold fpi; rw [if_neg (by rw [hin]; decide)]
    rw [e] at hk
    exact x_remove h hi (fun x hx => wfr_out hx) (wfr_num0 hin) o r4 hk
/-- some slots have been done -/
def dn (u : Wd → Nat → Wd) (w w1 : Wd) (D : Nat → Prop) : Prop := (∀ x, (x < 21 ∨ 1149 ≤ x) → w1 x = w x) ∧ ∀ j, j < 24 → ∀ x, 21 + 47 * j ≤ x → x < 68 + 47 * j → (D j → w1 x = u w j x) ∧ (¬ D j → w1 x = w x)
/-- it changes one slot, and looks at nothing but that and what is common -/
def lcl (u : Wd → Nat → Wd) : Prop := (∀ w j x, ¬ (21 + 47 * j ≤ x ∧ x < 68 + 47 * j) → u w j x = w x) ∧ ∀ w w1 j, j < 24 → (∀ x, (x < 21 ∨ 1149 ≤ x) → w1 x = w x) → (∀ x, 21 + 47 * j ≤ x → x < 68 + 47 * j → w1 x = w x) → ∀ x, 21 + 47 * j ≤ x → x < 68 + 47 * j → u w1 j x = u w j x
theorem dn.z {u : Wd → Nat → Wd} {D : Nat → Prop} (h : ∀ j, j < 24 → ¬ D j) : dn u w w D := ⟨fun _ _ => rfl, fun j hj x _ _ => ⟨fun q => absurd q (h j hj), fun _ => rfl⟩⟩
theorem dn.c {u : Wd → Nat → Wd} {w1 : Wd} {D D' : Nat → Prop} (h : dn u w w1 D) (e : ∀ j, j < 24 → (D j ↔ D' j)) : dn u w w1 D' := ⟨h.1, fun j hj x q1 q2 => ⟨fun z => (h.2 j hj x q1 q2).1 ((e j hj).mpr z), fun z => (h.2 j hj x q1 q2).2 (fun y => z ((e j hj).mp y))⟩⟩
theorem dn.s {u : Wd → Nat → Wd} {w1 : Wd} {D D' : Nat → Prop} (hu : lcl u) (h : dn u w w1 D) {i : Nat} (hi : i < 24) (hd : ¬ D i) (e : ∀ j, j < 24 → (D' j ↔ (D j ∨ j = i))) : dn u w (u w1 i) D' := by
  refine ⟨fun x hx => (hu.1 _ _ _ (by omega)).trans (h.1 x hx), fun j hj x q1 q2 => ?_⟩
  by_cases c : j = i
  · subst c
    refine ⟨fun _ => hu.2 w w1 j hj h.1 (fun x q1 q2 => (h.2 j hj x q1 q2).2 hd) x q1 q2, fun z => absurd ((e j hj).mpr (Or.inr rfl)) z⟩
  · rw [hu.1 _ _ _ (by omega)]
    exact ⟨fun z => (h.2 j hj x q1 q2).1 (((e j hj).mp z).resolve_right c), fun z => (h.2 j hj x q1 q2).2 (fun y => z ((e j hj).mpr (Or.inl y)))⟩
theorem dn.u {u : Wd → Nat → Wd} {w1 w2 : Wd} {D : Nat → Prop} (h : dn u w w1 D) (g : dn u w w2 D) : w1 = w2 := by
  funext x
  rcases (show (x < 21 ∨ 1149 ≤ x) ∨ (21 ≤ x ∧ x < 1149) by omega) with c | c
  · rw [h.1 x c, g.1 x c]
  · have a := h.2 ((x - 21) / 47) (by omega) x (by omega) (by omega)
    have b := g.2 ((x - 21) / 47) (by omega) x (by omega) (by omega)
    by_cases d : D ((x - 21) / 47)
    · rw [a.1 d, b.1 d]
    · rw [a.2 d, b.2 d]
theorem dn.at {u : Wd → Nat → Wd} {w1 : Wd} {D : Nat → Prop} (h : dn u w w1 D) {j : Nat} (hj : j < 24) (hd : ¬ D j) (f : Nat) (hf : f < 47) : w1 (21 + 47 * j + f) = w (21 + 47 * j + f) := (h.2 j hj _ (by omega) (by omega)).2 hd
theorem wfr_lcl : lcl wfr := by
  refine ⟨fun w j x hx => wfr_out hx, fun w w1 j hj h1 h2 x q1 q2 => ?_⟩
  have e : isin w1 j = isin w j := by unfold isin num; rw [h2 _ (by omega) (by omega), h2 _ (by omega) (by omega)]
  unfold wfr
  rw [e]
  split
  · unfold va_up; rw [h2 x q1 q2]
  · unfold va_up; rw [h2 x q1 q2]
end RM
end PU34
