section PU9
/-! THE CLASS'S WRITES beside the world's -/
/-- what stands in savepoints is locked -/
def WS (w : Wd) (ns : Nat) : Prop := ∀ s k j, s < ns → k < 4 → j < 24 → nI k < w (1149 + 27 * s + 3) → w (svp s k j) = 1 → lie w j = true ∧ (lkr w j = nI s ∧ VOK w (svp s k j + 1) ∧ ∀ k', k ≤ k' → k' < 4 → nI k' < w (1149 + 27 * s + 3) → w (svp s k' j) = 1)
section XW
variable {S S' : sSt} {t : Nat} {w w' : Wd} {π : List Nat} {ns np cm nl i : Nat}
theorem zSca.c (h : zSca S t w) (h1 : ∀ f, f < 9 → S'.1 13 t (7 + f) = S.1 13 t (7 + f)) (h2 : S'.1 17 t = S.1 17 t) (h3 : S'.1 18 t = S.1 18 t) (hw : ∀ x, x < 21 → x ≠ 14 → w' x = w x) : zSca S' t w' := by
  obtain ⟨a, b, c⟩ := h
  refine ⟨fun f hf => by rw [h1 f hf, hw f (by omega) (by omega)]; exact a f hf, fun g hg => by rw [h3, hw _ (by omega) (by omega)]; exact b g hg, fun g hg => by rw [h2, hw _ (by omega) (by omega)]; exact c g hg⟩
theorem zPln.c (h : zPln S t w np) (hp : np ≤ 4) (h1 : ∀ p, p < 4 → S'.1 25 (4 * t + p) = S.1 25 (4 * t + p)) (hw : ∀ x, 1257 ≤ x → x < 1289 → w' x = w x) : zPln S' t w' np := by
  intro p hp' f hf
  rw [h1 p (by omega), hw _ (by omega) (by omega)]
  exact h p hp' f hf
theorem zLog.c (h : zLog S t w nl) (hl : nl ≤ 60) (h1 : S'.1 19 t = S.1 19 t) (h2 : S'.1 20 t = S.1 20 t) (hw : ∀ x, 1289 ≤ x → x < 1589 → w' x = w x) : zLog S' t w' nl := by
  obtain ⟨x, a, b, c, d, e⟩ := h
  refine ⟨x, a, by rw [h1]; exact b, by rw [h1]; exact c, d, fun c' hc f hf => ?_⟩
  rw [h2, hw _ (by omega) (by omega)]
  exact e c' hc f hf
theorem QR.c {q p : Nat} (h : QR S q w p) (h1 : ∀ k, 3 ≤ k → k ≤ 8 → S'.1 k q = S.1 k q) (hw : ∀ x, p ≤ x → x < p + 23 → w' x = w x) : QR S' q w' p := by
  obtain ⟨a1, a2, a3, a4, a5⟩ := h
  refine ⟨by rw [h1 3 (by omega) (by omega), hw _ (by omega) (by omega)]; exact a1, by rw [h1 3 (by omega) (by omega), hw _ (by omega) (by omega)]; exact a2, by rw [h1 3 (by omega) (by omega), hw _ (by omega) (by omega)]; exact a3, ?_, ?_⟩
  · intro k hk hlt
    rw [hw (p + 1) (by omega) (by omega)] at hlt
    rw [h1 4 (by omega) (by omega), h1 5 (by omega) (by omega), h1 6 (by omega) (by omega), hw _ (by omega) (by omega), hw _ (by omega) (by omega), hw _ (by omega) (by omega)]
    exact a4 k hk hlt
  · intro k hk hlt
    rw [hw (p + 14) (by omega) (by omega)] at hlt
    rw [h1 7 (by omega) (by omega), h1 8 (by omega) (by omega), hw _ (by omega) (by omega), hw _ (by omega) (by omega)]
    exact a5 k hk hlt
theorem zSes.c (h : zSes S t w ns) (hn : ns ≤ 4) (h1 : ∀ s, s < 4 → S'.1 24 (4 * t + s) = S.1 24 (4 * t + s)) (h2 : ∀ s, s < 4 → ∀ k, 3 ≤ k → k ≤ 8 → S'.1 k (4 * t + s + 1) = S.1 k (4 * t + s + 1)) (hw : ∀ x, 1149 ≤ x → x < 1257 → w' x = w x) : zSes S' t w' ns := by
  intro s hs
  obtain ⟨a1, a2, a3, a4, a5⟩ := h s hs
  rw [SR, h1 s (by omega), hw _ (by omega) (by omega), hw _ (by omega) (by omega), hw _ (by omega) (by omega), hw _ (by omega) (by omega)]
  exact ⟨a1, a2, a3, a4, a5.c (fun k q1 q2 => h2 s (by omega) k q1 q2) (fun x q1 q2 => hw x (by omega) (by omega))⟩
theorem cJ.c {q v : Nat} (h1 : S'.1 21 q = S.1 21 q) (h2 : S'.1 22 v = S.1 22 v) (f : Nat) : cJ S' q v f = cJ S q v f := by
  unfold cJ; rw [h1, h2]
theorem JR.c {q j : Nat} (h : JR S q w j) (h1 : S'.1 21 q = S.1 21 q) (h2 : ∀ d, d < 2 → S'.1 22 (6 * q + d) = S.1 22 (6 * q + d)) (hw : ∀ x, 21 + 47 * j ≤ x → x < 68 + 47 * j → w' x = w x) : JR S' q w' j := by
  obtain ⟨a1, a2, a3, a4, a5⟩ := h
  unfold JR num lkr at *
  rw [h1, hw _ (by omega) (by omega), hw _ (by omega) (by omega), hw _ (by omega) (by omega)]
  refine ⟨a1, a2, a3, fun c f hf => ?_, fun c f hf => ?_⟩
  · rw [cJ.c h1 (show S'.1 22 (6 * q) = S.1 22 (6 * q) from h2 0 (by omega)), hw _ (by omega) (by omega)]; exact a4 c f hf
  · rw [cJ.c h1 (h2 1 (by omega)), hw _ (by omega) (by omega)]; exact a5 c f hf
theorem JZ.c {q j : Nat} (h : JZ S q w j ns) (hj : j < 24) (hn : ns ≤ 4) (h1 : S'.1 21 q = S.1 21 q) (h2 : ∀ d, d < 4 → S'.1 22 (6 * q + 2 + d) = S.1 22 (6 * q + 2 + d)) (hl : lkr w' j = lkr w j) (hs : ∀ s, s < 4 → w' (1149 + 27 * s + 3) = w (1149 + 27 * s + 3)) (hw : ∀ x, 1589 ≤ x → x < 10421 → w' x = w x) : JZ S' q w' j ns := by
  intro s k hs' hk hlk hsv
  rw [hl] at hlk
  rw [hs s (by omega)] at hsv
  obtain ⟨b1, b2⟩ := h s k hs' hk hlk hsv
  have es : svb S' q k = svb S q k := by unfold svb; rw [h1]
  rw [es, hw _ (by unfold svp; omega) (by unfold svp; omega)]
  refine ⟨b1, fun c f hf => ?_⟩
  rw [cJ.c h1 (h2 k hk), hw _ (by unfold svp; omega) (by unfold svp; omega)]
  exact b2 c f hf
theorem zJob.c (h : zJob S t w π ns) (hO : zOrd w π) (hn : ns ≤ 4) (h14 : S'.2 14 t = S.2 14 t) (h1 : ∀ i, i < π.length → S'.1 21 (S.2 14 t i) = S.1 21 (S.2 14 t i)) (h2 : ∀ i, i < π.length → ∀ d, d < 6 → S'.1 22 (6 * (S.2 14 t i) + d) = S.1 22 (6 * (S.2 14 t i) + d)) (hj : ∀ x, 21 ≤ x → x < 1149 → w' x = w x) (hs : ∀ s, s < 4 → w' (1149 + 27 * s + 3) = w (1149 + 27 * s + 3)) (hw : ∀ x, 1589 ≤ x → x < 10421 → w' x = w x) : zJob S' t w' π ns := by
  intro i hi
  obtain ⟨a, b⟩ := h i hi
  have hj4 := hO.at hi
  rw [h14]
  exact ⟨a.c (h1 i hi) (fun d hd => h2 i hi d (by omega)) (fun x q1 q2 => hj x (by omega) (by omega)), b.c hj4 hn (h1 i hi) (fun d hd => by rw [Nat.add_assoc]; exact h2 i hi (2 + d) (by omega)) (hj _ (by omega) (by omega)) hs hw⟩
theorem zOrd.c (h : zOrd w π) (hw : ∀ j, j < 24 → w' (21 + 47 * j) = w (21 + 47 * j)) : zOrd w' π := by
  have e : ∀ j, j < 24 → num w' j = num w j := fun j hj => hw j hj
  refine ⟨fun j => ?_, ?_⟩
  · rw [h.1 j]
    constructor
    · rintro ⟨q1, q2⟩; exact ⟨q1, by unfold lie at *; rw [e j q1]; exact q2⟩
    · rintro ⟨q1, q2⟩; exact ⟨q1, by unfold lie at *; rw [← e j q1]; exact q2⟩
  · refine h.2.imp_of_mem (fun {a b} ha hb q => ?_)
    rw [e a (h.lt ha), e b (h.lt hb)]; exact q
/-- one job is changed -/
theorem zT.upd (hT : zT S t w π ns np nl) (hO : zOrd w π) (hn : ns ≤ 4) (hp : np ≤ 4) (hl : nl ≤ 60) (hi : i < π.length) (hS : ∀ k a, ¬ (k = 21 ∧ a = S.2 14 t i) → ¬ (k = 22 ∧ a / 6 = S.2 14 t i) → S'.1 k a = S.1 k a) (h2 : S'.2 = S.2) (hw : ∀ x, ¬ (21 + 47 * (pl π i) ≤ x ∧ x < 68 + 47 * (pl π i)) → w' x = w x) (hJ : JR S' (S.2 14 t i) w' (pl π i)) (hZ : JZ S' (S.2 14 t i) w' (pl π i) ns) : zT S' t w' π ns np nl := by
  have hj4 := hO.at hi
  have hlen := hO.len
  refine ⟨?_, by unfold zRef; rw [h2]; exact hT.ref, ?_, hT.sca.c (fun f _ => ?_) ?_ ?_ (fun x _ _ => hw x (by omega)), hT.ses.c hn (fun s _ => ?_) (fun s _ k _ _ => ?_) (fun x _ _ => hw x (by omega)), hT.pln.c hp (fun p _ => ?_) (fun x _ _ => hw x (by omega)), hT.log.c hl ?_ ?_ (fun x _ _ => hw x (by omega))⟩
  · rw [hS 13 t (by omega) (by omega)]; exact hT.size
  · intro i' hi'
    rw [h2]
    by_cases c : i' = i
    · rw [c]; exact ⟨hJ, hZ⟩
    · have hq : S.2 14 t i' ≠ S.2 14 t i := fun e => c (hT.ref.2 i' i (by omega) (by omega) e)
      have hj : pl π i' ≠ pl π i := fun e => c (hO.inj hi' hi e)
      obtain ⟨a, b⟩ := hT.job i' hi'
      have h21 := hS 21 (S.2 14 t i') (by omega) (by omega)
      have h22 : ∀ d, d < 6 → S'.1 22 (6 * (S.2 14 t i') + d) = S.1 22 (6 * (S.2 14 t i') + d) := fun d hd => hS 22 _ (by omega) (by omega)
      exact ⟨a.c h21 (fun d hd => h22 d (by omega)) (fun x q1 q2 => hw x (by omega)), b.c (hO.at hi') hn h21 (fun d hd => by rw [Nat.add_assoc]; exact h22 (2 + d) (by omega)) (hw _ (by omega)) (fun s _ => hw _ (by omega)) (fun x _ _ => hw x (by omega))⟩
  · rw [hS 13 t (by omega) (by omega)]
  · exact hS 17 t (by omega) (by omega)
  · exact hS 18 t (by omega) (by omega)
  · exact hS 24 _ (by omega) (by omega)
  · exact hS k _ (by omega) (by omega)
  · exact hS 25 _ (by omega) (by omega)
  · exact hS 19 t (by omega) (by omega)
  · exact hS 20 t (by omega) (by omega)
/-- version a0 is written like version a1 of the same job -/
theorem x_copyV {v0 v1 : Nat} {k : sSt → Prop} (h : ∀ S', S'.1 22 v0 = (fun f => if f < 8 then S.1 22 v1 f else S.1 22 v0 f) → (∀ a b, ¬ (a = 22 ∧ b = v0) → S'.1 a b = S.1 a b) → S'.2 = S.2 → k S') : F_X9_copyFrom v0 v1 S k := by
  unfold F_X9_copyFrom
  rintro _ rfl _ rfl _ rfl _ rfl _ rfl _ rfl _ rfl _ rfl
  refine h _ ?_ ?_ rfl
  · funext f
    by_cases c : v0 = v1
    · subst c
      simp [uI]
      repeat' split
      all_goals first | rfl | (rename_i z; rw [z])
    · have c' : ¬ v1 = v0 := fun e => c e.symm
      simp only [uI, true_and, c', false_and, and_false, if_false]
      by_cases e0 : f = 0
      · simp [e0]
      by_cases e1 : f = 1
      · simp [e1]
      by_cases e2 : f = 2
      · simp [e2]
      by_cases e3 : f = 3
      · simp [e3]
      by_cases e4 : f = 4
      · simp [e4]
      by_cases e5 : f = 5
      · simp [e5]
      by_cases e6 : f = 6
      · simp [e6]
      by_cases e7 : f = 7
      · simp [e7]
      simp [e0, e1, e2, e3, e4, e5, e6, e7, show ¬ f < 8 by omega]
  · intro a b hab
    simp only [uI_other (fun c => hab ⟨c.1, c.2⟩)]
end XW
end PU9
