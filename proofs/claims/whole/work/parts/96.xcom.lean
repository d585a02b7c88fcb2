section PU16
/-! COMMITTED: the class's side -/
/-- what a commit keeps -/
def KC (t : Nat) (S S' : sSt) : Prop := KP t S S' ∧ S'.2 = S.2 ∧ (∀ a, 9 ≤ a → a ≤ 12 → S'.1 a = S.1 a) ∧ (∀ q, S'.1 22 (6 * q + 1) = S.1 22 (6 * q + 1)) ∧ ∀ q, S'.1 21 q 6 = S.1 21 q 6
theorem KC.rfl {t : Nat} {S : sSt} : KC t S S := ⟨KP.rfl, Eq.refl _, fun _ _ _ => Eq.refl _, fun _ => Eq.refl _, fun _ => Eq.refl _⟩
theorem KC.tr {t : Nat} {S S1 S2 : sSt} (h : KC t S S1) (g : KC t S1 S2) : KC t S S2 := ⟨h.1.tr g.1, g.2.1.trans h.2.1, fun a q1 q2 => (g.2.2.1 a q1 q2).trans (h.2.2.1 a q1 q2), fun q => (g.2.2.2.1 q).trans (h.2.2.2.1 q), fun q => (g.2.2.2.2 q).trans (h.2.2.2.2 q)⟩
section XM
variable {S S' : sSt} {t : Nat} {w w' : Wd} {π : List Nat} {ns np cm nl i : Nat}
theorem x_add (hL : zLog S t w nl) (hnl : nl ≤ 60) {m : Int32} {q : Nat} {k : sSt → Prop} (h : ∀ S1, (∀ a b, ¬ (a = 19 ∧ b = t) → ¬ (a = 20 ∧ b = t) → S1.1 a b = S.1 a b) → S1.2 = S.2 → (∀ w' : Wd, w' 1289 = m → w' 1290 = S.1 21 q 6 → w' 1291 = S.1 22 (6 * q + 1) 0 → w' 1292 = S.1 22 (6 * q + 1) 5 → w' 1293 = S.1 22 (6 * q + 1) 6 → (∀ x, 1294 ≤ x → x < 1589 → w' x = w (x - 5)) → zLog S1 t w' (nlx nl)) → k S1) : F_X2_add t m q S k := by
  obtain ⟨x, hx, h1, h2, h3, h4⟩ := hL
  rw [F_X2_add, h1, h2, forall_eq]
  have e0 : ((nI x + nI nl - (nI x + nI nl) / 60 * 60) * 5 : Int32) = nI ((x + nl) % 60 * 5) := by
    rw [nI_add, show (60 : Int32) = nI 60 from rfl, pk_rem (by omega) (by omega) (by omega), show (5 : Int32) = nI 5 from rfl, pk_mul]
  rw [e0, na_0, na_1, na_2, na_3, na_4]
  obtain ⟨at_, hat⟩ : ∃ y, y = (x + nl) % 60 * 5 := ⟨_, rfl⟩
  have hat5 : at_ + 5 ≤ 300 := by omega
  rw [← hat]
  rw [ix_n (by omega) (by omega)]
  intro S4 e4
  rw [ix_n (by omega) (by omega)]
  intro S7 e7
  rw [ix_n (by omega) (by omega)]
  intro S11 e11
  rw [ix_n (by omega) (by omega)]
  intro S15 e15
  rw [ix_n (by omega) (by omega)]
  intro S19 e19
  have o19 : ∀ a b, ¬ (a = 20 ∧ b = t) → S19.1 a b = S.1 a b := by
    intro a b c
    rw [e19, uI_other c, e15, uI_other c, e11, uI_other c, e7, uI_other c, e4, uI_other c]
  have n21 : S4.1 21 q 6 = S.1 21 q 6 := by rw [e4, uI_other (by omega)]
  have n0 : S7.1 22 (6 * q + 1) 0 = S.1 22 (6 * q + 1) 0 := by rw [e7, uI_other (by omega), e4, uI_other (by omega)]
  have n5 : S11.1 22 (6 * q + 1) 5 = S.1 22 (6 * q + 1) 5 := by rw [e11, uI_other (by omega), e7, uI_other (by omega), e4, uI_other (by omega)]
  have n6 : S15.1 22 (6 * q + 1) 6 = S.1 22 (6 * q + 1) 6 := by rw [e15, uI_other (by omega), e11, uI_other (by omega), e7, uI_other (by omega), e4, uI_other (by omega)]
  rw [n21] at e7
  rw [n0] at e11
  rw [n5] at e15
  rw [n6] at e19
  have c19 : ∀ y, S19.1 20 t y = if y = at_ + 4 then S.1 22 (6 * q + 1) 6 else if y = at_ + 3 then S.1 22 (6 * q + 1) 5 else if y = at_ + 2 then S.1 22 (6 * q + 1) 0 else if y = at_ + 1 then S.1 21 q 6 else if y = at_ then m else S.1 20 t y := by
    intro y
    rw [e19, e15, e11, e7, e4]
    simp only [uI, true_and]
  have s19 : S19.2 = S.2 := by rw [e19, e15, e11, e7, e4]; rfl
  have g2 : S19.1 19 t 2 = nI nl := by rw [o19 19 t (by omega)]; exact h2
  have g1 : S19.1 19 t 1 = nI x := by rw [o19 19 t (by omega)]; exact h1
  rw [g2, g1]
  refine ⟨fun c => ?_, fun c => ?_⟩
  · have hnl60 : nl = 60 := by
      rw [show (60 : Int32) = nI 60 from rfl, nI_leI (by omega) (by omega)] at c; omega
    intro S21 e21
    rw [nI_1, show (60 : Int32) = nI 60 from rfl, pk_rem (by omega) (by omega) (by omega)] at e21
    refine h S21 (fun a b q1 q2 => by rw [e21, uI_other q1, o19 a b q2]) (by rw [e21]; exact s19) (fun w' r0 r1 r2 r3 r4 hs => ?_)
    have d21 : S21.1 20 t = S19.1 20 t := by rw [e21, uI_other (by omega)]
    refine ⟨(x + 1) % 60, by omega, by rw [e21, uI_at], ?_, fun z => ?_, fun cc hcc f hf => ?_⟩
    · rw [e21, uI_nc (by omega), g2]; unfold nlx; rw [if_neg (by omega), hnl60]
    · unfold nlx at z; rw [if_neg (by omega)] at z; omega
    · unfold nlx at hcc ⊢
      rw [if_neg (by omega)] at hcc ⊢
      rw [d21, c19]
      by_cases c59 : cc = 59
      · have hi0 : ((x + 1) % 60 + cc) % 60 * 5 = at_ := by omega
        rw [hi0, c59, show 1289 + 5 * (60 - 1 - 59) + f = 1289 + f from by omega]
        rcases (show f = 0 ∨ f = 1 ∨ f = 2 ∨ f = 3 ∨ f = 4 by omega) with rfl | rfl | rfl | rfl | rfl
        · rw [if_neg (by omega), if_neg (by omega), if_neg (by omega), if_neg (by omega), if_pos (by omega)]; exact r0.symm
        · rw [if_neg (by omega), if_neg (by omega), if_neg (by omega), if_pos rfl]; exact r1.symm
        · rw [if_neg (by omega), if_neg (by omega), if_pos rfl]; exact r2.symm
        · rw [if_neg (by omega), if_pos rfl]; exact r3.symm
        · rw [if_pos rfl]; exact r4.symm
      · have hi0 : ((x + 1) % 60 + cc) % 60 = (x + (cc + 1)) % 60 := by omega
        have hne : (x + (cc + 1)) % 60 * 5 ≠ at_ := by omega
        rw [hi0, if_neg (by omega), if_neg (by omega), if_neg (by omega), if_neg (by omega), if_neg (by omega), h4 (cc + 1) (by omega) f hf, hs _ (by omega) (by omega)]
        congr 1; omega
  · have hnl60 : nl < 60 := by
      rw [show (60 : Int32) = nI 60 from rfl, nI_leI (by omega) (by omega)] at c; omega
    have hx0 := h3 hnl60
    intro S22 e22
    refine h S22 (fun a b q1 q2 => by rw [e22, uI_other q1, o19 a b q2]) (by rw [e22]; exact s19) (fun w' r0 r1 r2 r3 r4 hs => ?_)
    have d21 : S22.1 20 t = S19.1 20 t := by rw [e22, uI_other (by omega)]
    have hnx : nlx nl = nl + 1 := by unfold nlx; split <;> omega
    rw [hnx]
    refine ⟨x, hx, by rw [e22, uI_nc (by omega), g1], by rw [e22, uI_at, nI_1], fun _ => hx0, fun cc hcc f hf => ?_⟩
    rw [d21, c19]
    by_cases c59 : cc = nl
    · have hi0 : (x + cc) % 60 * 5 = at_ := by omega
      rw [hi0, c59, show 1289 + 5 * (nl + 1 - 1 - nl) + f = 1289 + f from by omega]
      rcases (show f = 0 ∨ f = 1 ∨ f = 2 ∨ f = 3 ∨ f = 4 by omega) with rfl | rfl | rfl | rfl | rfl
      · rw [if_neg (by omega), if_neg (by omega), if_neg (by omega), if_neg (by omega), if_pos (by omega)]; exact r0.symm
      · rw [if_neg (by omega), if_neg (by omega), if_neg (by omega), if_pos rfl]; exact r1.symm
      · rw [if_neg (by omega), if_neg (by omega), if_pos rfl]; exact r2.symm
      · rw [if_neg (by omega), if_pos rfl]; exact r3.symm
      · rw [if_pos rfl]; exact r4.symm
    · have hne : (x + cc) % 60 * 5 ≠ at_ := by omega
      rw [if_neg (by omega), if_neg (by omega), if_neg (by omega), if_neg (by omega), if_neg (by omega), h4 cc (by omega) f hf, hs _ (by omega) (by omega)]
      congr 1; omega
/-- one job is told of and stored -/
theorem x_com1 (hT : zT S t w π ns np nl) (hO : zOrd w π) (hW : WF w ns np cm nl) (hi : i < π.length) (hk1 : lkr w (pl π i) ≠ -1) {k : sSt → Prop} (hk : ∀ S', zT S' t (wc1 w (pl π i)) π ns np (nlx nl) → KC t S S' → k S') : F_X2_add t (S.1 13 t 10) (S.2 14 t i) S (fun S18 => F_X1_store (S18.2 14 t i) S18 k) := by
  have hn := hW.hns.1
  have hj4 := hO.at hi
  have hl := hO.la hi
  have hlen := hO.len
  have hr := hT.ref.1 i (by omega)
  obtain ⟨b1, b2, b3, b4, b5⟩ := (hT.job i hi).1
  have b5 := b5 hk1
  refine x_add hT.log hW.hnl.1 (fun S1 o1 e1 hL1 => ?_)
  rw [e1, F_X1_store]
  refine x_copyV (fun S4 g1 g2 g3 => ?_)
  intro S5 e5 S6 e6
  have hw1 := wc1_is hl
  -- the cells of S6
  have o6 : ∀ a b, ¬ (a = 19 ∧ b = t) → ¬ (a = 20 ∧ b = t) → ¬ (a = 21 ∧ b = S.2 14 t i) → ¬ (a = 22 ∧ b = 6 * S.2 14 t i) → S6.1 a b = S.1 a b := by
    intro a b c1 c2 c3 c4
    rw [e6, uI_other c3, e5, uI_other c3, g2 a b c4, o1 a b c1 c2]
  have q6 : ∀ f, f ≠ 5 → f ≠ 4 → S6.1 21 (S.2 14 t i) f = S.1 21 (S.2 14 t i) f := by
    intro f c1 c2
    rw [e6, uI_nc (by omega), e5, uI_nc (by omega), g2 _ _ (by omega), o1 _ _ (by omega) (by omega)]
  have q65 : S6.1 21 (S.2 14 t i) 5 = 1 := by rw [e6, uI_nc (by omega), e5, uI_at]
  have q64 : S6.1 21 (S.2 14 t i) 4 = -1 := by rw [e6, uI_at]
  have v6 : ∀ y, S6.1 22 (6 * S.2 14 t i) y = if y < 8 then S.1 22 (6 * S.2 14 t i + 1) y else S.1 22 (6 * S.2 14 t i) y := by
    intro y
    rw [e6, uI_other (by omega), e5, uI_other (by omega), g1, o1 _ _ (by omega) (by omega), o1 _ _ (by omega) (by omega)]
  have r6 : S6.2 = S.2 := by rw [e6, e5]; exact g3.trans e1
  have wo : ∀ x, (x < 21 + 47 * pl π i + 1 ∨ 21 + 47 * pl π i + 25 ≤ x) → (x < 1289 ∨ 1589 ≤ x) → x ≠ 14 → wc1 w (pl π i) x = w x := fun x c1 c2 c3 => wc1_out hl c1 c2 c3
  refine hk S6 ⟨?_, ?_, ?_, hT.sca.c (fun f _ => by rw [o6 13 t (by omega) (by omega) (by omega) (by omega)]) (o6 17 t (by omega) (by omega) (by omega) (by omega)) (o6 18 t (by omega) (by omega) (by omega) (by omega)) (fun x c1 c2 => wo x (by omega) (by omega) c2), hT.ses.c hn (fun s _ => o6 24 _ (by omega) (by omega) (by omega) (by omega)) (fun s _ k _ _ => o6 k _ (by omega) (by omega) (by omega) (by omega)) (fun x c1 c2 => wo x (by omega) (by omega) (by omega)), hT.pln.c hW.hnp.1 (fun p _ => o6 25 _ (by omega) (by omega) (by omega) (by omega)) (fun x c1 c2 => wo x (by omega) (by omega) (by omega)), ?_⟩ ⟨⟨fun a b c1 => ?_, fun a b _ => by rw [r6]⟩, r6, fun a q1 q2 => ?_, fun q => ?_, fun q => ?_⟩
  · rw [o6 13 t (by omega) (by omega) (by omega) (by omega)]; exact hT.size
  · unfold zRef; rw [r6]; exact hT.ref
  · intro i' hi'
    rw [r6]
    by_cases c : i' = i
    · rw [c]
      refine ⟨⟨?_, ?_, ?_, fun _ f hf => ?_, fun z => ?_⟩, fun s k hs hk4 hlk _ => ?_⟩
      · rw [q6 6 (by omega) (by omega), wc1_num hl hj4]; exact b1
      · rw [q65, hw1, wtl_out (by omega) (by omega), wst_in]
      · rw [q64, wc1_lkr hl hj4, if_pos rfl]
      · rw [hw1, wtl_out (by omega) (by omega), wst_tab hf, ← b5 f hf]
        rcases f_cases f with rfl | rfl | rfl | rfl | rfl | rfl | rfl | rfl | rfl | rfl | rfl | rfl | rfl | ⟨k, rfl⟩ <;> simp only [cJ, v6] <;> first | rfl | exact q6 _ (by omega) (by omega)
      · rw [wc1_lkr hl hj4, if_pos rfl] at z; exact absurd rfl z
      · rw [wc1_lkr hl hj4, if_pos rfl] at hlk; exact absurd hlk.symm (ni_m1 (by omega))
    · have hq : S.2 14 t i' ≠ S.2 14 t i := fun e => c (hT.ref.2 i' i (by omega) (by omega) e)
      have hj : pl π i' ≠ pl π i := fun e => c (hO.inj hi' hi e)
      have hj4' := hO.at hi'
      obtain ⟨a, b⟩ := hT.job i' hi'
      have h21 := o6 21 (S.2 14 t i') (by omega) (by omega) (by omega) (by omega)
      have h22 : ∀ d, d < 6 → S6.1 22 (6 * (S.2 14 t i') + d) = S.1 22 (6 * (S.2 14 t i') + d) := fun d hd => o6 22 _ (by omega) (by omega) (by omega) (by omega)
      refine ⟨a.c h21 (fun d hd => h22 d (by omega)) (fun x q1 q2 => wo x (by omega) (by omega) (by omega)), b.c hj4' hn h21 (fun d hd => by rw [Nat.add_assoc]; exact h22 (2 + d) (by omega)) ?_ (fun s _ => wo _ (by omega) (by omega) (by omega)) (fun x _ _ => wo x (by omega) (by omega) (by omega))⟩
      rw [wc1_lkr hl hj4', if_neg hj]
  · have hrow := wtl_row (w := wst w (pl π i)) (j := pl π i) hj4
    rw [← hw1] at hrow
    obtain ⟨u0, u1, u2, u3, u4⟩ := hrow
    have L6 : zLog S1 t (wc1 w (pl π i)) (nlx nl) := by
      refine hL1 _ ?_ ?_ ?_ ?_ ?_ (fun x c1 c2 => ?_)
      · rw [u0, wst_out (by omega)]; exact (hT.sca.1 3 (by omega)).symm
      · rw [u1, wst_num]; exact b1.symm
      · rw [u2, wst_tab (by omega)]; exact (b5 3 (by omega)).symm
      · rw [u3, wst_tab (by omega)]; exact (b5 8 (by omega)).symm
      · rw [u4, wst_tab (by omega)]; exact (b5 9 (by omega)).symm
      · rw [hw1, wtl_log c1 c2, wst_out (by omega)]
    refine L6.c (by unfold nlx; split <;> omega) ?_ ?_ (fun _ _ _ => rfl)
    · rw [e6, uI_other (by omega), e5, uI_other (by omega), g2 _ _ (by omega)]
    · rw [e6, uI_other (by omega), e5, uI_other (by omega), g2 _ _ (by omega)]
  · exact o6 a b (fun z => c1 (by unfold ow; omega)) (fun z => c1 (by unfold ow; omega)) (fun z => c1 (by unfold ow; omega)) (fun z => c1 (by unfold ow; omega))
  · funext b; exact o6 a b (by omega) (by omega) (by omega) (by omega)
  · exact o6 22 _ (by omega) (by omega) (by omega) (by omega)
  · by_cases c : q = S.2 14 t i
    · rw [c]; exact q6 6 (by omega) (by omega)
    · rw [o6 21 q (by omega) (by omega) (by omega) (by omega)]
end XM
end PU16
