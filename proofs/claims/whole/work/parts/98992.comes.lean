section PU39
/-! A JOB COMES -/
def nwv (g pr co mo du : Int32) (f : Nat) : Int32 := if f = 0 then g else if f = 1 then pr else if f = 2 then co else if f = 4 then mo else if f = 5 then du else if f = 9 ∨ f = 11 ∨ f = 12 then -1 else 0
def nwc (nu : Int32) (off : Nat) (inn g pr co mo du : Int32) (f : Nat) : Int32 := if f = 0 then nu else if f = 1 then inn else if f = 2 then -1 else if off ≤ f ∧ f < off + 22 then nwv g pr co mo du (f - off) else 0
def wnew (w : Wd) (j off : Nat) (inn g pr co du : Int32) : Wd := fun x => if x = 6 then w 6 + 1 else if 21 + 47 * j ≤ x ∧ x < 68 + 47 * j then nwc (w 6) off inn g pr co (w 3) du (x - (21 + 47 * j)) else w x
section CS
variable {Sc Sc' Sm S' S : sSt} {l sp n t : Nat} {w w' : Wd} {π π' : List Nat} {ns np cm nl ns' np' cm' nl' : Nat}
theorem wnew_out {j off x : Nat} {inn g pr co du : Int32} (h6 : x ≠ 6) (h : ¬ (21 + 47 * j ≤ x ∧ x < 68 + 47 * j)) : wnew w j off inn g pr co du x = w x := by
  unfold wnew; rw [if_neg h6, if_neg h]
theorem wnew_6 {j off : Nat} {inn g pr co du : Int32} : wnew w j off inn g pr co du 6 = w 6 + 1 := by unfold wnew; rw [if_pos rfl]
theorem wnew_c {j off f : Nat} {inn g pr co du : Int32} (hf : f < 47) : wnew w j off inn g pr co du (21 + 47 * j + f) = nwc (w 6) off inn g pr co (w 3) du f := by
  unfold wnew
  rw [if_neg (by omega), if_pos (by omega), show 21 + 47 * j + f - (21 + 47 * j) = f from by omega]
theorem wnew_num {j off : Nat} {inn g pr co du : Int32} : num (wnew w j off inn g pr co du) j = w 6 := wnew_c (f := 0) (by omega)
theorem wnew_lkr {j off : Nat} {inn g pr co du : Int32} : lkr (wnew w j off inn g pr co du) j = -1 := by unfold lkr; rw [wnew_c (f := 2) (by omega)]; rfl
theorem wnew_1 {j off : Nat} {inn g pr co du : Int32} : wnew w j off inn g pr co du (21 + 47 * j + 1) = inn := by rw [wnew_c (f := 1) (by omega)]; rfl
theorem wnew_v {j off f : Nat} {inn g pr co du : Int32} (ho : 3 ≤ off) (ho2 : off ≤ 25) (hf : f < 22) : wnew w j off inn g pr co du (21 + 47 * j + off + f) = nwv g pr co (w 3) du f := by
  rw [Nat.add_assoc, wnew_c (by omega)]
  unfold nwc
  rw [if_neg (by omega), if_neg (by omega), if_neg (by omega), if_pos (by omega), show off + f - off = f from by omega]
theorem vok_new {p g co d : Nat} {pr mo du : Int32} (hg : g < 6) (h1 : 1 ≤ co) (h9 : co ≤ 9) (hd : d ≤ 10107) (ed : du = nI d) (hw : ∀ f, f < 22 → w (p + f) = nwv (nI g) pr (nI co) mo du f) : VOK w p := by
  have h0 := hw 0 (by omega)
  rw [Nat.add_zero] at h0
  refine ⟨⟨g, hg, h0⟩, ⟨co, h1, h9, hw 2 (by omega)⟩, ⟨0, by omega, hw 3 (by omega)⟩, ⟨d, hd, (hw 5 (by omega)).trans ed⟩, ⟨0, by omega, hw 6 (by omega), fun q => absurd q (by omega)⟩, ⟨0, by omega, hw 7 (by omega)⟩, fun k hk => ⟨0, by omega, ?_⟩⟩
  rw [Nat.add_assoc, hw (13 + k) (by omega)]
  unfold nwv
  rw [if_neg (by omega), if_neg (by omega), if_neg (by omega), if_neg (by omega), if_neg (by omega), if_neg (by omega)]
  rfl
theorem WF.new (h : WF w ns np cm nl) (hcm : cm + 1 < 1000000) {j off g co d : Nat} {inn pr du : Int32} (hj : j < 24) (hl : lie w j = false) (hi : (off = 3 ∧ inn = 1)) (hg : g < 6) (h1 : 1 ≤ co) (h9 : co ≤ 9) (hd : d ≤ 10107) (ed : du = nI d) : WF (wnew w j off inn (nI g) pr (nI co) du) ns np (cm + 1) nl := by
  obtain ⟨rfl, rfl⟩ := hi
  have e6 := h.hcm.2
  have o : ∀ x, x ≠ 6 → ¬ (21 + 47 * j ≤ x ∧ x < 68 + 47 * j) → wnew w j 3 1 (nI g) pr (nI co) du x = w x := fun x a b => wnew_out a b
  have en : num (wnew w j 3 1 (nI g) pr (nI co) du) j = nI cm := wnew_num.trans e6
  have hs := h.hns.1
  have hp := h.hnp.1
  have eo : ∀ x, x < 24 → x ≠ j → num (wnew w j 3 1 (nI g) pr (nI co) du) x = num w x := fun x hx hne => o _ (by omega) (by omega)
  have lt : ∀ x, x < 24 → x ≠ j → lie w x = true → ∃ y, y < cm ∧ num w x = nI y := fun x hx _ hl => by
    rcases h.job x hx with q | ⟨q, -⟩
    · exact absurd q (lie_n hl)
    · exact q
  refine ⟨by rw [o _ (by omega) (by omega)]; exact h.edt, ⟨hs, by rw [o _ (by omega) (by omega)]; exact h.hns.2⟩, ⟨hp, by rw [o _ (by omega) (by omega)]; exact h.hnp.2⟩, ⟨hcm, by rw [wnew_6, e6]; exact nI_1 cm⟩, ⟨h.hnl.1, by rw [o _ (by omega) (by omega)]; exact h.hnl.2⟩, fun x hx => ?_, fun a b ha hb hla e => ?_, fun s hs' => (h.ses s hs').c (fun y _ _ => o y (by omega) (by omega)), fun p hp' => (h.pln p hp').c (fun y _ _ => o y (by omega) (by omega)), ?_, ?_, ?_, ?_, ?_, ?_, fun g' hg' => ?_⟩
  · by_cases c : x = j
    · subst c
      refine Or.inr ⟨⟨cm, by omega, en⟩, Or.inr wnew_1, Or.inl wnew_1, Or.inl wnew_lkr, fun _ => vok_new hg h1 h9 hd ed (fun f hf => wnew_v (by omega) (by omega) hf), fun q => absurd wnew_lkr q⟩
    · rcases h.job x hx with q | ⟨⟨y, y1, y2⟩, q⟩
      · exact Or.inl (by rw [eo x hx c]; exact q)
      · have hJ : JOK w ns (cm + 1) x := Or.inr ⟨⟨y, by omega, y2⟩, q⟩
        exact hJ.c (fun z _ _ => o z (by omega) (by omega))
  · have hne : ∀ x, x < 24 → x ≠ j → num w x = nI cm → False := fun x hx c q => by
      have hlx : lie w x = true := by unfold lie; rw [q]; simp [ni_m1 (show cm < 2147483648 by omega)]
      obtain ⟨y, y1, y2⟩ := lt x hx c hlx
      rw [y2, nI_eq (by omega) (by omega)] at q
      omega
    by_cases ca : a = j
    · by_cases cb : b = j
      · rw [ca, cb]
      · rw [ca, en, eo b hb cb] at e
        exact (hne b hb cb e.symm).elim
    · by_cases cb : b = j
      · rw [cb, en, eo a ha ca] at e
        exact (hne a ha ca e).elim
      · rw [eo a ha ca, eo b hb cb] at e
        refine h.one a b ha hb ?_ e
        unfold lie at *; rw [eo a ha ca] at hla; exact hla
  · rw [o _ (by omega) (by omega)]; exact h.mono
  · rw [o _ (by omega) (by omega)]; exact h.wall
  · rw [o _ (by omega) (by omega)]; exact h.base
  · rw [o _ (by omega) (by omega)]; exact h.cap
  · rw [o _ (by omega) (by omega)]; exact h.jit
  · rw [o _ (by omega) (by omega)]; exact h.lim
  · rw [o _ (by omega) (by omega)]; exact h.par g' hg'
theorem zOrd.new (hO : zOrd w π) (hW : WF w ns np cm nl) {j off : Nat} {inn g pr co du : Int32} (hj : j < 24) (hl : lie w j = false) : zOrd (wnew w j off inn g pr co du) (π ++ [j]) := by
  have hcm := hW.hcm
  have en : num (wnew w j off inn g pr co du) j = nI cm := wnew_num.trans hcm.2
  have eo : ∀ x, x < 24 → x ≠ j → num (wnew w j off inn g pr co du) x = num w x := fun x hx hne => wnew_out (by omega) (by omega)
  have hnj : ∀ x, x ∈ π → x ≠ j := fun x hx e => by have := hO.lies hx; rw [e, hl] at this; exact absurd this (by decide)
  refine ⟨fun x => ?_, ?_⟩
  · rw [List.mem_append, List.mem_singleton, hO.1 x]
    by_cases c : x = j
    · subst c
      refine ⟨fun _ => ⟨hj, ?_⟩, fun _ => Or.inr rfl⟩
      unfold lie; rw [en]; simp [ni_m1 (show cm < 2147483648 by omega)]
    · refine ⟨fun q => ?_, fun q => Or.inl ⟨q.1, ?_⟩⟩
      · rcases q with q | q
        · refine ⟨q.1, ?_⟩
          have := q.2
          unfold lie at *; rw [eo x q.1 c]; exact this
        · exact absurd q c
      · have := q.2
        unfold lie at *; rw [eo x q.1 c] at this; exact this
  · rw [List.pairwise_append]
    refine ⟨hO.2.imp_of_mem (fun {a b} ha hb q => by rw [eo a (hO.lt ha) (hnj a ha), eo b (hO.lt hb) (hnj b hb)]; exact q), List.pairwise_singleton _ _, fun a ha b hb => ?_⟩
    rw [List.mem_singleton] at hb
    rw [hb, en, eo a (hO.lt ha) (hnj a ha)]
    rcases hW.job a (hO.lt ha) with q | ⟨⟨y, y1, y2⟩, -⟩
    · exact absurd q (lie_n (hO.lies ha))
    · rw [y2]; exact nI_lt y1 (by omega)
theorem pl_app {i j : Nat} (hi : i < π.length) : pl (π ++ [j]) i = pl π i := by
  unfold pl; rw [List.getD_eq_getElem?_getD, List.getD_eq_getElem?_getD, List.getElem?_append_left hi]
theorem pl_last {j : Nat} : pl (π ++ [j]) π.length = j := by
  unfold pl; rw [List.getD_eq_getElem?_getD, List.getElem?_append_right (by omega)]; simp
theorem WS.new (h : WS w ns) (hn : ns ≤ 4) {j off : Nat} {inn g pr co du : Int32} (hj : j < 24) (hl : lie w j = false) : WS (wnew w j off inn g pr co du) ns := by
  intro s k x hs hk hx hsv hf
  rw [wnew_out (by omega) (by omega)] at hsv
  rw [wnew_out (by unfold svp; omega) (by unfold svp; omega)] at hf
  obtain ⟨g1, g2, gv, gm⟩ := h s k x hs hk hx hsv hf
  have c : x ≠ j := fun e => by rw [e, hl] at g1; exact absurd g1 (by decide)
  refine ⟨by unfold lie num at *; rw [wnew_out (by omega) (by omega)]; exact g1, by unfold lkr at *; rw [wnew_out (by omega) (by omega)]; exact g2, gv.c (fun f hf => wnew_out (by unfold svp; omega) (by unfold svp; omega)), fun k' q1 q2 q3 => ?_⟩
  rw [wnew_out (by omega) (by omega)] at q3
  rw [wnew_out (by unfold svp; omega) (by unfold svp; omega)]
  exact gm k' q1 q2 q3
theorem x_addJob (h : zB S t w π ns np cm nl) (hlen : π.length < 24) (hcm : cm + 1 < 1000000) {j g co m : Nat} {pr : Int32} (hj : j < 24) (hl : lie w j = false) (hg : g < 6) (h1 : 1 ≤ co) (h9 : co ≤ 9) (hm : m ≤ 9999) (em : w 3 = nI m) {k : Option Nat → sSt → Prop} (hk : ∀ S', zB S' t (wnew w j 3 1 (nI g) pr (nI co) (w 3)) (π ++ [j]) ns np (cm + 1) nl → KP t S S' → S'.2 = S.2 → k (some (S.2 14 t π.length)) S') : F_X6_addJob t (nI g) pr (nI co) S k := by
  obtain ⟨hT, hO, hW, hZ⟩ := h
  have hn := hW.hns.1
  have c13 : S.1 13 t 13 = w 6 := hT.sca.1 6 (by omega)
  have c10 : S.1 13 t 10 = w 3 := hT.sca.1 3 (by omega)
  obtain ⟨q, hq⟩ : ∃ q, q = S.2 14 t π.length := ⟨_, rfl⟩
  have hqt : q / 24 = t := by rw [hq]; exact hT.ref.1 _ hlen
  rw [← hq] at hk
  rw [F_X6_addJob, hT.size]
  refine ⟨fun _ => ?_, fun c => absurd (nI_lt (b := 24) hlen (by omega)) c⟩
  rw [ix_n (by omega) (by omega), ← hq]
  intro S6 e6 S7 e7 S8 e8 S9 e9 S10 e10 S11 e11 S12 e12 S13 e13 S14 e14 S15 e15 S16 e16
  rw [F_X9_startAt]
  intro T1 f1 T2 f2 T3 f3 T4 f4 T5 f5 T6 f6 T7 f7 T8 f8
  have s6 : S6.1 13 t 13 = w 6 := by rw [e6, uI_nc (by omega)]; exact c13
  have s7 : S7.1 13 t 13 = w 6 := by rw [e7, uI_other (by omega)]; exact s6
  have s11 : S11.1 13 t 10 = w 3 := by rw [e11, uI_other (by omega), e10, uI_other (by omega), e9, uI_other (by omega), e8, uI_nc (by omega), e7, uI_other (by omega), e6, uI_nc (by omega)]; exact c10
  have s16 : S16.1 13 t 10 = w 3 := by rw [e16, uI_other (by omega), e15, uI_other (by omega), e14, uI_other (by omega), e13, uI_other (by omega), e12, uI_other (by omega)]; exact s11
  have z6 : S.1 13 t 6 + 1 = nI (π.length + 1) := by rw [hT.size]; exact nI_1 _
  rw [s6] at e7
  rw [s7] at e8
  rw [s11] at e12
  rw [s16] at f2
  have all : T8 = uI (uI (uI (uI (uI (uI (uI (uI (uI (uI (uI (uI (uI (uI (uI (uI (uI (uI (uI S 13 t 6 (nI π.length + 1)) 21 q 6 (w 6)) 13 t 13 (w 6 + 1)) 21 q 7 (nI g)) 21 q 8 pr) 21 q 9 (nI co)) 21 q 10 (w 3)) 21 q 11 (-1)) 21 q 12 (-1)) 21 q 5 1) 21 q 4 (-1)) 22 (6 * q) 0 0) 22 (6 * q) 1 (w 3)) 22 (6 * q) 2 0) 22 (6 * q) 3 0) 22 (6 * q) 4 0) 22 (6 * q) 5 0) 22 (6 * q) 6 (-1)) 22 (6 * q) 7 0 := by
    rw [f8, f7, f6, f5, f4, f3, f2, f1, e16, e15, e14, e13, e12, e11, e10, e9, e8, e7, e6]
  have o : ∀ a b, ¬ (a = 13 ∧ b = t) → ¬ (a = 21 ∧ b = q) → ¬ (a = 22 ∧ b = 6 * q) → T8.1 a b = S.1 a b := fun a b q1 q2 q3 => by
    rw [all]
    simp only [uI_other q1, uI_other q2, uI_other q3]
  have r : T8.2 = S.2 := by rw [all]; rfl
  have c13' : ∀ f, T8.1 13 t f = if f = 6 then nI π.length + 1 else if f = 13 then w 6 + 1 else S.1 13 t f := fun f => by
    rw [all]
    simp only [uI]
    by_cases a : f = 6 <;> by_cases b : f = 13 <;> simp [a, b]
  have c21 : ∀ f, T8.1 21 q f = if f = 6 then w 6 else if f = 7 then nI g else if f = 8 then pr else if f = 9 then nI co else if f = 10 then w 3 else if f = 11 then -1 else if f = 12 then -1 else if f = 5 then 1 else if f = 4 then -1 else S.1 21 q f := fun f => by
    rw [all]
    simp only [uI]
    by_cases a6 : f = 6
    · subst a6; simp
    by_cases a7 : f = 7
    · subst a7; simp
    by_cases a8 : f = 8
    · subst a8; simp
    by_cases a9 : f = 9
    · subst a9; simp
    by_cases a10 : f = 10
    · subst a10; simp
    by_cases a11 : f = 11
    · subst a11; simp
    by_cases a12 : f = 12
    · subst a12; simp
    by_cases a5 : f = 5
    · subst a5; simp
    by_cases a4 : f = 4
    · subst a4; simp
    simp [a4, a5, a6, a7, a8, a9, a10, a11, a12]
  have c22 : ∀ f, f < 8 → T8.1 22 (6 * q) f = if f = 1 then w 3 else if f = 6 then -1 else 0 := fun f hf => by
    rw [all]
    simp only [uI]
    rcases (show f = 0 ∨ f = 1 ∨ f = 2 ∨ f = 3 ∨ f = 4 ∨ f = 5 ∨ f = 6 ∨ f = 7 by omega) with rfl | rfl | rfl | rfl | rfl | rfl | rfl | rfl <;> simp
  have kp : KP t S T8 := ⟨fun a b z => o a b (fun y => z (by unfold ow; omega)) (fun y => z (by unfold ow; omega)) (fun y => z (by unfold ow; omega)), fun a b _ => by rw [r]⟩
  refine hk T8 ⟨⟨?_, by unfold zRef; rw [r]; exact hT.ref, fun i hi => ?_, ⟨fun f hf => ?_, fun x hx => ?_, fun x hx => ?_⟩, hT.ses.c hn (fun s _ => o _ _ (by omega) (by omega) (by omega)) (fun s _ k _ _ => o _ _ (by omega) (by omega) (by omega)) (fun x _ _ => wnew_out (by omega) (by omega)), hT.pln.c hW.hnp.1 (fun p _ => o _ _ (by omega) (by omega) (by omega)) (fun x _ _ => wnew_out (by omega) (by omega)), hT.log.c hW.hnl.1 (o _ _ (by omega) (by omega) (by omega)) (o _ _ (by omega) (by omega) (by omega)) (fun x _ _ => wnew_out (by omega) (by omega))⟩, hO.new hW hj hl, hW.new hcm hj hl ⟨rfl, rfl⟩ hg h1 h9 (show m ≤ 10107 by omega) em, hZ.new hn hj hl⟩ kp r
  · rw [c13', if_pos rfl, List.length_append]; exact nI_1 _
  · rw [List.length_append, List.length_singleton] at hi
    rw [r]
    by_cases c : i = π.length
    · subst c
      rw [pl_last, ← hq]
      refine ⟨⟨by rw [c21, if_pos rfl, wnew_num], by rw [c21, wnew_1]; rfl, by rw [c21, wnew_lkr]; rfl, fun _ f hf => ?_, fun z => absurd wnew_lkr z⟩, fun s k hs hk' hlk _ => ?_⟩
      · rw [wnew_v (by omega) (by omega) hf]
        rcases ((Nat.lt_or_ge f 13).imp id (fun z => ⟨f - 13, by omega⟩) : f < 13 ∨ ∃ y, f = y + 13) with z | ⟨y, rfl⟩
        · rcases (show f = 0 ∨ f = 1 ∨ f = 2 ∨ f = 3 ∨ f = 4 ∨ f = 5 ∨ f = 6 ∨ f = 7 ∨ f = 8 ∨ f = 9 ∨ f = 10 ∨ f = 11 ∨ f = 12 by omega) with rfl | rfl | rfl | rfl | rfl | rfl | rfl | rfl | rfl | rfl | rfl | rfl | rfl <;> simp only [cJ, c21, nwv] <;> first | rfl | (rw [c22 _ (by omega)]; rfl)
        · show cz (T8.1 22 (6 * q) 4) y = _
          rw [c22 4 (by omega)]
          have : nwv (nI g) pr (nI co) (w 3) (w 3) (y + 13) = 0 := by
            unfold nwv
            rw [if_neg (by omega), if_neg (by omega), if_neg (by omega), if_neg (by omega), if_neg (by omega), if_neg (by omega)]
          rw [this]
          refine b_ext fun i hi => ?_
          rw [cz_b _ (by omega) hi]
          show (decide (i < 3) && bt 0 _) = bt 0 i
          rw [b_0, b_0]; simp
      · rw [wnew_lkr] at hlk
        exact absurd hlk.symm (ni_m1 (by omega))
    · have hi' : i < π.length := by omega
      have hjx := hO.at hi'
      have hne : S.2 14 t i ≠ q := fun e => c (hT.ref.2 i π.length (by omega) hlen (by rw [e, hq]))
      have hpj : pl π i ≠ j := fun e => by have := hO.la hi'; rw [e, hl] at this; exact absurd this (by decide)
      obtain ⟨a, b⟩ := hT.job i hi'
      rw [pl_app hi']
      exact ⟨a.c (o _ _ (by omega) (by omega) (by omega)) (fun d hd => o _ _ (by omega) (by omega) (by omega)) (fun x q1 q2 => wnew_out (by omega) (by omega)), b.c hjx hn (o _ _ (by omega) (by omega) (by omega)) (fun d hd => o _ _ (by omega) (by omega) (by omega)) (wnew_out (by omega) (by omega)) (fun s _ => wnew_out (by omega) (by omega)) (fun x _ _ => wnew_out (by omega) (by omega))⟩
  · rw [c13', if_neg (by omega)]
    by_cases c : f = 6
    · rw [c, if_pos rfl, wnew_6]
    · rw [if_neg (by omega), wnew_out c (by omega)]; exact hT.sca.1 f hf
  · rw [o _ _ (by omega) (by omega) (by omega), wnew_out (by omega) (by omega)]; exact hT.sca.2.1 x hx
  · rw [o _ _ (by omega) (by omega) (by omega), wnew_out (by omega) (by omega)]; exact hT.sca.2.2 x hx
end CS
end PU39
