section PU12
/-! TABLE AND GOOD WORLD TOGETHER; one job is held -/
def zB (S : sSt) (t : Nat) (w : Wd) (π : List Nat) (ns np cm nl : Nat) : Prop := zT S t w π ns np nl ∧ zOrd w π ∧ WF w ns np cm nl ∧ WS w ns
section HB
variable {S S' : sSt} {t : Nat} {w w' : Wd} {π : List Nat} {ns np cm nl i : Nat}
theorem WF.vown (h : WF w ns np cm nl) {j : Nat} (hj : j < 24) (hl : lie w j = true) (hk : lkr w j ≠ -1) : VOK w (21 + 47 * j + 25) := by
  rcases h.job j hj with q | ⟨_, _, _, _, _, q5⟩
  · exact absurd q (lie_n hl)
  · exact q5 hk
theorem zB.own (h : zB S t w π ns np cm nl) (hi : i < π.length) {mf : Nat} (hf : okf mf) (hk : lkr w (pl π i) ≠ -1) (v : Int32) (hv : VOK (va_up w (21 + 47 * (pl π i) + 25 + mf) v) (21 + 47 * (pl π i) + 25)) : zB (uI S 22 (6 * S.2 14 t i + 1) (vf mf) v) t (va_up w (21 + 47 * (pl π i) + 25 + mf) v) π ns np cm nl := by
  obtain ⟨hT, hO, hW, hZ⟩ := h
  have hm : mf < 22 := by unfold okf at hf; omega
  have hm3 : 3 ≤ mf := by unfold okf at hf; omega
  have hj4 := hO.at hi
  exact ⟨hT.own hO hW.hns.1 hW.hnp.1 hW.hnl.1 hi hf v, hO.c (fun j _ => up_ne (by omega)), hW.own hj4 hm hk (hO.la hi) hv, hZ.c hW.hns.1 (fun j _ => ⟨up_ne (by omega), up_ne (by omega)⟩) (fun s _ => up_ne (by omega)) (fun x _ _ => up_ne (by omega))⟩
/-- a number of the table that nothing is asked of -/
theorem zB.sca (h : zB S t w π ns np cm nl) {f : Nat} (hf : f = 5 ∨ f = 7 ∨ f = 8) (v : Int32) : zB (uI S 13 t (7 + f) v) t (va_up w f v) π ns np cm nl := by
  obtain ⟨hT, hO, hW, hZ⟩ := h
  have hn := hW.hns.1
  refine ⟨⟨?_, hT.ref, hT.job.c hO hn rfl (fun i _ => uI_other (by omega)) (fun i _ d _ => uI_other (by omega)) (fun x _ _ => up_ne (by omega)) (fun s _ => up_ne (by omega)) (fun x _ _ => up_ne (by omega)), ⟨fun g hg => ?_, fun g hg => ?_, fun g hg => ?_⟩, hT.ses.c hn (fun s _ => uI_other (by omega)) (fun s _ k _ _ => uI_other (by omega)) (fun x _ _ => up_ne (by omega)), hT.pln.c hW.hnp.1 (fun p _ => uI_other (by omega)) (fun x _ _ => up_ne (by omega)), hT.log.c hW.hnl.1 (uI_other (by omega)) (uI_other (by omega)) (fun x _ _ => up_ne (by omega))⟩, hO.c (fun j _ => up_ne (by omega)), hW.out (up_ne (by omega)) (fun x _ _ _ _ _ _ => up_ne (by omega)), hZ.c hn (fun j _ => ⟨up_ne (by omega), up_ne (by omega)⟩) (fun s _ => up_ne (by omega)) (fun x _ _ => up_ne (by omega))⟩
  · rw [show (uI S 13 t (7 + f) v).1 13 t 6 = S.1 13 t 6 from if_neg (by omega)]; exact hT.size
  · by_cases c : g = f
    · rw [c, up_eq]; exact if_pos ⟨rfl, rfl, rfl⟩
    · rw [up_ne c, ← hT.sca.1 g hg]; exact if_neg (by omega)
  · rw [up_ne (by omega), ← hT.sca.2.1 g hg, uI_other (by omega)]
  · rw [up_ne (by omega), ← hT.sca.2.2 g hg, uI_other (by omega)]
/-- LATEST of a session -/
theorem zB.lat (h : zB S t w π ns np cm nl) {s g : Nat} (hs : s < ns) (hg : g < 6) : zB (uI S 24 (4 * t + s) 2 (nI g)) t (va_up w (1149 + 27 * s + 1) (nI g)) π ns np cm nl := by
  obtain ⟨hT, hO, hW, hZ⟩ := h
  have hn := hW.hns.1
  refine ⟨⟨?_, hT.ref, hT.job.c hO hn rfl (fun i _ => uI_other (by omega)) (fun i _ d _ => uI_other (by omega)) (fun x _ _ => up_ne (by omega)) (fun s _ => up_ne (by omega)) (fun x _ _ => up_ne (by omega)), hT.sca.c (fun f _ => ?_) (uI_other (by omega)) (uI_other (by omega)) (fun x _ _ => up_ne (by omega)), fun s' hs' => ?_, hT.pln.c hW.hnp.1 (fun p _ => uI_other (by omega)) (fun x _ _ => up_ne (by omega)), hT.log.c hW.hnl.1 (uI_other (by omega)) (uI_other (by omega)) (fun x _ _ => up_ne (by omega))⟩, hO.c (fun j _ => up_ne (by omega)), hW.sess hs (fun x hx => up_ne (by omega)) ?_, hZ.c hn (fun j _ => ⟨up_ne (by omega), up_ne (by omega)⟩) (fun s _ => up_ne (by omega)) (fun x _ _ => up_ne (by omega))⟩
  · rw [show (uI S 24 (4 * t + s) 2 (nI g)).1 13 t = S.1 13 t from uI_other (by omega)]; exact hT.size
  · rw [show (uI S 24 (4 * t + s) 2 (nI g)).1 13 t = S.1 13 t from uI_other (by omega)]
  · obtain ⟨a1, a2, a3, a4, a5⟩ := hT.ses s' hs'
    have e : ∀ f, (uI S 24 (4 * t + s) 2 (nI g)).1 24 (4 * t + s') f = if s' = s ∧ f = 2 then nI g else S.1 24 (4 * t + s') f := by
      intro f
      by_cases c : s' = s ∧ f = 2
      · rw [if_pos c, c.1, c.2]; exact if_pos ⟨rfl, rfl, rfl⟩
      · rw [if_neg c]; exact if_neg (by omega)
    refine ⟨?_, ?_, ?_, ?_, a5.c (fun k _ _ => uI_other (by omega)) (fun x _ _ => up_ne (by omega))⟩
    · rw [e, if_neg (by omega), up_ne (by omega)]; exact a1
    · rw [e]
      by_cases c : s' = s
      · rw [if_pos ⟨c, rfl⟩, c, up_eq]
      · rw [if_neg (by omega), up_ne (by omega)]; exact a2
    · rw [e, if_neg (by omega), up_ne (by omega)]; exact a3
    · rw [e, if_neg (by omega), up_ne (by omega)]; exact a4
  · obtain ⟨b1, b2, b3, b4, b5, b6⟩ := hW.ses s hs
    unfold SOK
    rw [up_ne (by omega), up_ne (by omega), up_eq, up_ne (by omega), up_ne (by omega), up_ne (by omega)]
    exact ⟨b1, b2, ⟨g, hg, rfl⟩, b4, b5, b6⟩
/-- a job is held by a session -/
def whd (w : Wd) (j s : Nat) : Wd :=
  let w2 := va_up (wlk w j (nI s)) 5 (wlk w j (nI s) 5 + 1)
  let w3 := va_up w2 (21 + 47 * j + 25 + 3) 1
  let w4 := va_up w3 (21 + 47 * j + 25 + 9) (nI s)
  let w5 := va_up w4 (21 + 47 * j + 25 + 8) (w4 5)
  let w6 := va_up w5 (21 + 47 * j + 25 + 10) (w5 3 + w5 9)
  va_up w6 (1149 + 27 * s + 1) (w6 (21 + 47 * j + 25))
/-- on the way: the job at place i is locked, nothing but this table has changed since S0 -/
def zQ (S0 S : sSt) (t : Nat) (w : Wd) (π : List Nat) (ns np cm nl i : Nat) : Prop := zB S t w π ns np cm nl ∧ (KP t S0 S ∧ S.2 = S0.2 ∧ ∀ a, 9 ≤ a → a ≤ 12 → S.1 a = S0.1 a) ∧ lkr w (pl π i) ≠ -1 ∧ i < π.length
theorem ow_own {t q : Nat} (h : q / 24 = t) : ow t 22 (6 * q + 1) := by unfold ow; omega
theorem cl_i {S S1 : sSt} {k i j : Nat} {v : Int32} (hk : ¬ (9 ≤ k ∧ k ≤ 12)) (h : ∀ a, 9 ≤ a → a ≤ 12 → S1.1 a = S.1 a) : ∀ a, 9 ≤ a → a ≤ 12 → (uI S1 k i j v).1 a = S.1 a := by
  intro a q1 q2
  rw [← h a q1 q2]
  funext b
  exact uI_other (by omega)
theorem sees_oth {j : Nat} {s : Int32} (hs : oth w j s = false) : lkr w j = -1 ∨ lkr w j = s := by
  unfold oth at hs
  by_cases c : lkr w j = -1
  · exact Or.inl c
  · right; simpa [c] using hs
theorem zB.lockFor (h : zB S t w π ns np cm nl) (hi : i < π.length) {s : Nat} (hs : s < ns) (ho : oth w (pl π i) (nI s) = false) {k : Nat → sSt → Prop} (hk : ∀ S', zQ S S' t (wlk w (pl π i) (nI s)) π ns np cm nl i → k (6 * S.2 14 t i + 1) S') : F_X1_lockFor (S.2 14 t i) (nI s) S k := by
  obtain ⟨hT, hO, hW, hZ⟩ := h
  exact x_lockFor hT hO hW hZ hi hs ho (fun S' g1 g2 g3 g4 => hk S' ⟨⟨g1, wlk_ord hO, hW.lock (hO.at hi) hs (hO.la hi) ho, hZ.lock hW.hns.1 (hO.at hi) hs ho⟩, ⟨g2, g3, g4⟩, by rw [wlk_lk]; exact ni_m1 (by have := hW.hns.1; omega), hi⟩)
section ZQ
variable {S0 S1 : sSt}
theorem zQ.vok (h : zQ S0 S t w π ns np cm nl i) : VOK w (21 + 47 * pl π i + 25) := h.1.2.2.1.vown (h.1.2.1.at h.2.2.2) (h.1.2.1.la h.2.2.2) h.2.2.1
theorem zQ.own (h : zQ S0 S t w π ns np cm nl i) {mf : Nat} (hf : okf mf) {v x : Int32} (e : S1 = uI S 22 (6 * S0.2 14 t i + 1) (vf mf) v) (hx : v = x) (hv : VOK (va_up w (21 + 47 * (pl π i) + 25 + mf) x) (21 + 47 * (pl π i) + 25)) : zQ S0 S1 t (va_up w (21 + 47 * (pl π i) + 25 + mf) x) π ns np cm nl i := by
  obtain ⟨hB, ⟨k1, k2, k3⟩, hk, hi⟩ := h
  subst hx
  subst e
  have hm3 : 3 ≤ mf := by unfold okf at hf; omega
  have hr := hB.1.ref.1 i (by have := hB.2.1.len; omega)
  rw [k2] at hr
  have := hB.own hi hf hk v hv
  rw [k2] at this
  refine ⟨this, ⟨k1.i (ow_own hr), k2, cl_i (by omega) k3⟩, ?_, hi⟩
  unfold lkr at *; rw [up_ne (by omega)]; exact hk
theorem zQ.free (h : zQ S0 S t w π ns np cm nl i) {mf : Nat} (hf : mf = 8 ∨ mf = 9 ∨ mf = 10) {v x : Int32} (e : S1 = uI S 22 (6 * S0.2 14 t i + 1) (vf mf) v) (hx : v = x) : zQ S0 S1 t (va_up w (21 + 47 * (pl π i) + 25 + mf) x) π ns np cm nl i :=
  h.own (by unfold okf; omega) e hx (h.vok.free (by omega) x)
theorem zQ.state (h : zQ S0 S t w π ns np cm nl i) {v : Int32} {x : Nat} (hx4 : x < 4) (h9 : w (21 + 47 * pl π i + 25 + 3) = 3 → x = 3) (e : S1 = uI S 22 (6 * S0.2 14 t i + 1) 0 v) (hx : v = nI x) : zQ S0 S1 t (va_up w (21 + 47 * (pl π i) + 25 + 3) (nI x)) π ns np cm nl i :=
  h.own (mf := 3) (by unfold okf; omega) e hx (h.vok.state hx4 (fun q => h9 (by
    obtain ⟨-, -, -, -, ⟨n, n1, n2, n3⟩, -⟩ := h.vok
    rw [n2, nI_eq (by omega) (by omega)] at q
    exact n3 q)))
theorem zQ.due (h : zQ S0 S t w π ns np cm nl i) {v : Int32} {x : Nat} (hx4 : x ≤ 10107) (e : S1 = uI S 22 (6 * S0.2 14 t i + 1) 1 v) (hx : v = nI x) : zQ S0 S1 t (va_up w (21 + 47 * (pl π i) + 25 + 5) (nI x)) π ns np cm nl i :=
  h.own (mf := 5) (by unfold okf; omega) e hx (h.vok.due hx4)
theorem zQ.tries0 (h : zQ S0 S t w π ns np cm nl i) {v : Int32} (e : S1 = uI S 22 (6 * S0.2 14 t i + 1) 2 v) (hx : v = 0) : zQ S0 S1 t (va_up w (21 + 47 * (pl π i) + 25 + 6) 0) π ns np cm nl i :=
  h.own (mf := 6) (by unfold okf; omega) e hx h.vok.tries0
theorem zQ.sca (h : zQ S0 S t w π ns np cm nl i) {f : Nat} (hf : f = 5 ∨ f = 7 ∨ f = 8) {v x : Int32} (e : S1 = uI S 13 t (7 + f) v) (hx : v = x) : zQ S0 S1 t (va_up w f x) π ns np cm nl i := by
  obtain ⟨hB, ⟨k1, k2, k3⟩, hk, hi⟩ := h
  subst hx
  subst e
  refine ⟨hB.sca hf v, ⟨k1.i (by unfold ow; omega), k2, cl_i (by omega) k3⟩, ?_, hi⟩
  unfold lkr at *; rw [up_ne (by omega)]; exact hk
theorem zQ.lat (h : zQ S0 S t w π ns np cm nl i) {s g : Nat} (hs : s < ns) (hg : g < 6) {v : Int32} (e : S1 = uI S 24 (4 * t + s) 2 v) (hx : v = nI g) : zQ S0 S1 t (va_up w (1149 + 27 * s + 1) (nI g)) π ns np cm nl i := by
  obtain ⟨hB, ⟨k1, k2, k3⟩, hk, hi⟩ := h
  subst hx
  subst e
  have hn := hB.2.2.1.hns.1
  have hj4 := hB.2.1.at hi
  refine ⟨hB.lat hs hg, ⟨k1.i (by unfold ow; omega), k2, cl_i (by omega) k3⟩, ?_, hi⟩
  unfold lkr at *; rw [up_ne (by omega)]; exact hk
theorem zQ.rown (h : zQ S0 S t w π ns np cm nl i) {f : Nat} (hf : f < 22) : cJ S (S0.2 14 t i) (6 * S0.2 14 t i + 1) f = w (21 + 47 * pl π i + 25 + f) := by
  obtain ⟨hB, ⟨k1, k2, k3⟩, hk, hi⟩ := h
  have := (hB.1.job i hi).1.2.2.2.2 hk f hf
  rw [k2] at this
  exact this
end ZQ
theorem ver_own {j : Nat} {s : Nat} (hs : s < 4) (h : lkr w j = nI s) : ver w j (nI s) = 21 + 47 * j + 25 := by
  unfold ver mine; rw [if_pos (by simp [h, ni_m1 (show s < 2147483648 by omega)])]
theorem ver_tab {j : Nat} {s : Int32} (h : lkr w j ≠ s) : ver w j s = 21 + 47 * j + 3 := by
  unfold ver mine; rw [if_neg (by simp [h])]
/-- what the session sees of a job that it locks stays what it was -/
theorem wlk_ver {j s f : Nat} (hs : s < 4) (ho : oth w j (nI s) = false) (hf : f < 22) : wlk w j (nI s) (21 + 47 * j + 25 + f) = w (ver w j (nI s) + f) := by
  by_cases c : lkr w j = nI s
  · rw [wlk_same c, ver_own hs c]
  · rw [wlk_own hf c, ver_tab c]
/-- the class holds one -/
theorem x_hold (h : zB S t w π ns np cm nl) (hi : i < π.length) {s : Nat} (hs : s < ns) (ho : oth w (pl π i) (nI s) = false) (hst : stt w (pl π i) (nI s) 0 = true) {k : sSt → Prop} (hk : ∀ S', zQ S S' t (whd w (pl π i) s) π ns np cm nl i → k S') : F_X0_hold t (nI i) (nI s) S k := by
  have hlen := h.2.1.len
  have hn := h.2.2.1.hns.1
  have hj4 := h.2.1.at hi
  simp only [stt, Bool.and_eq_true, decide_eq_true_eq] at hst
  obtain ⟨hse, hs0⟩ := hst
  rw [F_X0_hold, ix_n (by omega) (by omega)]
  refine h.lockFor hi hs ho (fun S5 h5 => ?_)
  have st5 : wlk w (pl π i) (nI s) (21 + 47 * pl π i + 25 + 3) = 0 := by rw [wlk_ver (by omega) ho (by omega)]; exact hs0
  obtain ⟨w5, hw5⟩ : ∃ w5, w5 = wlk w (pl π i) (nI s) := ⟨_, rfl⟩
  rw [← hw5] at h5 st5
  intro S6 e6
  have h6 := h5.sca (f := 5) (by omega) e6 (congrArg (· + 1) (h5.1.1.sca.1 5 (by omega)))
  obtain ⟨w6, hw6⟩ : ∃ w6, w6 = va_up w5 5 (w5 5 + 1) := ⟨_, rfl⟩
  rw [← hw6] at h6
  have st6 : w6 (21 + 47 * pl π i + 25 + 3) = 0 := by rw [hw6, up_ne (by omega)]; exact st5
  intro S7 e7
  have h7 := h6.state (x := 1) (by omega) (fun q => absurd (st6.symm.trans q) (by decide)) e7 rfl
  obtain ⟨w7, hw7⟩ : ∃ w7, w7 = va_up w6 (21 + 47 * pl π i + 25 + 3) (nI 1) := ⟨_, rfl⟩
  rw [← hw7] at h7
  intro S8 e8
  have h8 := h7.free (mf := 9) (by omega) e8 rfl
  obtain ⟨w8, hw8⟩ : ∃ w8, w8 = va_up w7 (21 + 47 * pl π i + 25 + 9) (nI s) := ⟨_, rfl⟩
  rw [← hw8] at h8
  intro S9 e9
  have h9 := h8.free (mf := 8) (by omega) e9 (h8.1.1.sca.1 5 (by omega))
  obtain ⟨w9, hw9⟩ : ∃ w9, w9 = va_up w8 (21 + 47 * pl π i + 25 + 8) (w8 5) := ⟨_, rfl⟩
  rw [← hw9] at h9
  intro S11 e11
  have h11 := h9.free (mf := 10) (by omega) e11 (congr (congrArg (· + ·) (h9.1.1.sca.1 3 (by omega))) (h9.1.1.sca.2.1 0 (by omega)))
  obtain ⟨w11, hw11⟩ : ∃ w11, w11 = va_up w9 (21 + 47 * pl π i + 25 + 10) (w9 3 + w9 (9 + 0)) := ⟨_, rfl⟩
  rw [← hw11] at h11
  rw [ix_n (show s < 4 by omega) (by omega)]
  intro S15 e15
  obtain ⟨⟨g, hg6, hg⟩, -⟩ := h11.vok
  have hgc : S11.1 21 (S.2 14 t i) 7 = w11 (21 + 47 * pl π i + 25) := h11.rown (f := 0) (by omega)
  have h15 := h11.lat hs hg6 e15 (hgc.trans hg)
  refine hk S15 ?_
  rw [← hg] at h15
  unfold whd
  rw [← hw5, show (1 : Int32) = nI 1 from rfl]
  simp only []
  rw [show va_up w5 5 (w5 5 + nI 1) = w6 from hw6.symm, ← hw7, ← hw8, ← hw9, show w9 9 = w9 (9 + 0) from rfl, ← hw11]
  exact h15
end HB
end PU12
