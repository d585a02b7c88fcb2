section PU79
/-! CALL table -/
section CS
variable {Sc Sc' Sm Sm' S S' : sSt} {l sp n t : Nat} {w : Wd} {π : List Nat} {ns np cm nl B : Nat} {T : Nat → Int32} {L : Nat}
theorem WF.edit (h : WF w ns np cm nl) {e : Nat} (he : e ≤ 12) : WF (va_up w 2 (nI e)) ns np cm nl := by
  have hnp := h.hnp.1
  have hn := h.hns.1
  refine ⟨⟨e, he, up_eq⟩, ⟨h.hns.1, by rw [up_ne (by omega)]; exact h.hns.2⟩, ⟨h.hnp.1, by rw [up_ne (by omega)]; exact h.hnp.2⟩, ⟨h.hcm.1, by rw [up_ne (by omega)]; exact h.hcm.2⟩, ⟨h.hnl.1, by rw [up_ne (by omega)]; exact h.hnl.2⟩, fun i hi => (h.job i hi).c (fun x _ _ => up_ne (by omega)), fun a b ha hb hl he => ?_, fun s' hs' => (h.ses s' hs').c (fun x _ _ => up_ne (by omega)), fun p' hp' => (h.pln p' hp').c (fun x _ _ => up_ne (by omega)), ?_, ?_, ?_, ?_, ?_, ?_, fun g hg => ?_⟩
  · have en : ∀ i, i < 24 → num (va_up w 2 (nI e)) i = num w i := fun i hi => up_ne (by omega)
    rw [en a ha, en b hb] at he
    refine h.one a b ha hb ?_ he
    unfold lie at *; rw [← en a ha]; exact hl
  · rw [up_ne (by omega)]; exact h.mono
  · rw [up_ne (by omega)]; exact h.wall
  · rw [up_ne (by omega)]; exact h.base
  · rw [up_ne (by omega)]; exact h.cap
  · rw [up_ne (by omega)]; exact h.jit
  · rw [up_ne (by omega)]; exact h.lim
  · rw [up_ne (by omega)]; exact h.par g hg
theorem zB.edit (h : zB S t w π ns np cm nl) {e : Nat} (he : e ≤ 12) : zB (uI S 13 t 9 (nI e)) t (va_up w 2 (nI e)) π ns np cm nl := by
  obtain ⟨hT, hO, hW, hZ⟩ := h
  have hn := hW.hns.1
  refine ⟨⟨?_, hT.ref, hT.job.c hO hn rfl (fun i _ => uI_other (by omega)) (fun i _ d _ => uI_other (by omega)) (fun x _ _ => up_ne (by omega)) (fun s _ => up_ne (by omega)) (fun x _ _ => up_ne (by omega)), ⟨fun g hg => ?_, fun g hg => ?_, fun g hg => ?_⟩, hT.ses.c hn (fun s _ => uI_other (by omega)) (fun s _ k _ _ => uI_other (by omega)) (fun x _ _ => up_ne (by omega)), hT.pln.c hW.hnp.1 (fun p _ => uI_other (by omega)) (fun x _ _ => up_ne (by omega)), hT.log.c hW.hnl.1 (uI_other (by omega)) (uI_other (by omega)) (fun x _ _ => up_ne (by omega))⟩, hO.c (fun j _ => up_ne (by omega)), hW.edit he, hZ.c hn (fun j _ => ⟨up_ne (by omega), up_ne (by omega)⟩) (fun s _ => up_ne (by omega)) (fun x _ _ => up_ne (by omega))⟩
  · rw [uI_nc (by omega)]; exact hT.size
  · by_cases c : g = 2
    · rw [c, up_eq, uI_at]
    · rw [up_ne c, ← hT.sca.1 g hg]; exact uI_nc (by omega)
  · rw [up_ne (by omega), ← hT.sca.2.1 g hg, uI_other (by omega)]
  · rw [up_ne (by omega), ← hT.sca.2.2 g hg, uI_other (by omega)]
theorem ow_lp {k i : Nat} (hl : (l = 1 ∧ sp = 2) ∨ (l = 2 ∧ sp = 1)) (q1 : ¬ ow 1 k i) (q2 : ¬ ow 2 k i) : ¬ ow sp k i := by
  rcases hl with ⟨-, rfl⟩ | ⟨-, rfl⟩
  · exact q2
  · exact q1
theorem ptl_w2 (hL : L ≤ 400) (hBB : B < 999000) : ∀ r w x w' y, x ≤ L → OY w B → ptl T L r w x = (some w', y) → w' 2 = w 2 := by
  intro r
  induction r with
  | zero => intro w x w' y hx hY h; rw [ptl] at h; cases h
  | succ r ih =>
    intro w x w' y hx hY h
    rw [ptl] at h
    obtain ⟨u, z, e1, h⟩ := bnd_e h
    obtain ⟨hY', hk, hz⟩ := pln_ok hL hx hY hBB e1
    split at h
    · rename_i q
      rw [ih u _ w' y (isS_lt q) hY' h]; exact hk 2 (Or.inr rfl)
    · split at h
      · cases h; exact hk 2 (Or.inr rfl)
      · cases h
theorem tab_w2 {w' : Wd} {y : Nat} (hY : OY w B) (hBB : B < 999000) (hL : L ≤ 400) (h : ptb T L w = (some w', y)) : w' 2 = w 2 := by
  unfold ptb at h
  split at h
  · cases h; rfl
  · exact ptl_w2 hL hBB 14 w 0 w' y (Nat.zero_le L) hY h
theorem tl_ok2 {r4 : Int32} (h1 : S'.1 0 0 0 = 0) (hI : Inv (n + 1) Sc S') {r : Int32} (hr : r = r4) : tl n 0 Sc r.toInt64 r4 S' := by
  rw [tl, F_X12_thrown]
  exact cs_end h1 (fun _ => by rw [hr]) hI
theorem cs_2 (hn5 : n < 512) (h : Inv n Sc Sm) {a1 a2 a3 a4 a5 : Int32} {o : Int64} : CS_2 a1 a2 a3 a4 a5 Sc Sm o (fun S1 S2 _ => Inv (n + 1) S1 S2) := by
  obtain ⟨l, sp, π, ns, np, cm, nl, hR, hB, hc⟩ := h
  obtain ⟨w, hw⟩ : ∃ w, w = Sm.1 1 0 := ⟨_, rfl⟩
  rw [← hw] at hB
  have hW := hB.2.2.1
  have hlen := hB.2.1.len
  have hl12 := hR.1
  have hne : sp ≠ l := by omega
  obtain ⟨t1, L, t2, t3, t4, t5⟩ := hR.2.2.2.2.2.2.2
  obtain ⟨ed, ed12, eed⟩ := hW.edt
  obtain ⟨T, hTd⟩ : ∃ T : Nat → Int32, T = fun z => if z < L then Sc.1 2 0 z else 0 := ⟨_, rfl⟩
  have hTl : ∀ z, z < L → T z = Sc.1 2 0 z := fun z hz => by rw [hTd]; exact if_pos hz
  have hT : byt T := fun z => by
    rw [hTd]
    by_cases q : z < L
    · simp only [q, if_true]; exact (t5 z q).2
    · simp only [q, if_false]; rfl
  obtain ⟨B, hBd⟩ : ∃ B, B = cm + 24 - π.length := ⟨_, rfl⟩
  have hBB : B < 999000 := by omega
  have hB13 : B ≤ 1300 * (n + 1) := by omega
  show FW_table Sc o (fun r1 S2 o3 => F_X12_table Sm (tl n r1 S2 o3))
  unfold FW_table F_X11_table
  rw [F_X8_useUp]
  rintro C1 e1 C2 e2
  have c2o : ∀ a b, ¬ (a = 1 ∧ b = 0) → C2.1 a b = Sc.1 a b := fun a b q => by rw [e2, e1, uI_other q, uI_other q]
  have c22 : C2.2 = Sc.2 := by rw [e2, e1]; rfl
  have c21 : C2.1 1 0 1 = 0 := by rw [e2, uI_at]
  have c2L : C2.1 1 0 2 = nI L := by rw [e2, uI_nc (by omega), e1, uI_at]; exact t3
  have hB2 : zB C2 l w π ns np cm nl := hB.cells (fun k i q1 q2 => c2o k i (by unfold ow at q1; omega)) (by rw [c22])
  have hl2 : C2.2 0 0 4 = l := by rw [c22]; exact hR.2.1
  have hs2 : C2.2 0 0 5 = sp := by rw [c22]; exact hR.2.2.1
  have hr2 : zRef C2 sp := by unfold zRef; rw [c22]; exact hR.2.2.2.1
  -- the model's first steps
  obtain ⟨M4, hM4⟩ : ∃ M4, M4 = uI (uI (uI (uI Sm 0 0 0 0) 0 0 11 (nI L)) 0 0 9 0) 0 0 10 0 := ⟨_, rfl⟩
  have m4o : ∀ a b, ¬ (a = 0 ∧ b = 0) → M4.1 a b = Sm.1 a b := fun a b q => by rw [hM4, uI_other q, uI_other q, uI_other q, uI_other q]
  have m4f : ∀ f, f ≠ 0 → f ≠ 9 → f ≠ 10 → f ≠ 11 → M4.1 0 0 f = Sm.1 0 0 f := fun f q1 q2 q3 q4 => by rw [hM4, uI_nc (by omega), uI_nc (by omega), uI_nc (by omega), uI_nc (by omega)]
  have m4w : M4.1 1 0 = w := by rw [m4o 1 0 (by omega), hw]
  have m40 : M4.1 0 0 0 = 0 := by rw [hM4, uI_nc (by omega), uI_nc (by omega), uI_nc (by omega), uI_at]
  have m49 : M4.1 0 0 9 = 0 := by rw [hM4, uI_nc (by omega), uI_at]
  have start : ∀ {kk : Int32 → sSt → Prop}, (∀ S', (∀ a b, ¬ (a = 3 ∧ b = 0) → S'.1 a b = M4.1 a b) → (∀ z, z < 1589 → S'.1 3 0 z = w z) → F_X12_readTable S' (fun r4 S5 => ((r4 = 0 → B_X12_table_49 r4 (S5.1 0 0 12) S5 kk) ∧ (¬ r4 = 0 → B_X12_table_49 r4 (-1) S5 kk)))) → F_X12_table Sm kk := by
    intro kk hk
    rw [F_X12_table, F_X12_uses]
    rintro A1 rfl A2 e2 A3 e3 A4 e4
    rw [show (uI Sm 0 0 0 0).1 0 0 9 = nI L from by rw [uI_nc (by omega)]; exact t4] at e2
    have : A4 = M4 := by rw [e4, e3, e2, hM4]
    rw [this]
    exact m_tab6 m4w hk
  -- the frames in the end
  have endR : ∀ (Ce Me : sSt) (l' sp' : Nat), ((l' = 1 ∧ sp' = 2) ∨ (l' = 2 ∧ sp' = 1)) → zRef Sc sp' → Ce.2 0 0 4 = l' → Ce.2 0 0 5 = sp' → Ce.2 14 = Sc.2 14 → (∀ a b, ¬ ow sp a b → ¬ (a = 1 ∧ b = 0) → Ce.1 a b = C2.1 a b) → Ce.1 1 0 1 = 0 → (∀ f, f ≠ 0 → f ≠ 10 → f ≠ 12 → f ≠ 13 → Me.1 0 0 f = M4.1 0 0 f) → Me.1 2 0 = M4.1 2 0 → Ce.1 1 0 4 = Me.1 0 0 13 → zR (n + 1) Ce Me l' sp' := by
    intro Ce Me l' sp' hl' hrf h4 h5 h14 hC h1 hM hM2 e4
    have hz : zTap Ce Me := ⟨e4, 0, by omega, h1, by rw [hM 9 (by omega) (by omega) (by omega) (by omega)]; exact m49, fun x hx => absurd hx (Nat.not_lt_zero x)⟩
    exact hR.tap (n' := n + 1) (l' := l') (sp' := sp') (Sc' := Ce) (Sm' := Me) (Nat.le_succ n) hl' hrf h4 h5 h14 (fun k i q1 q2 z1 _ _ => by rw [hC k i (ow_lp hl12 q1 q2) z1, c2o k i z1]) (by rw [hM 7 (by omega) (by omega) (by omega) (by omega), m4f 7 (by omega) (by omega) (by omega) (by omega)]) (by rw [hM 1 (by omega) (by omega) (by omega) (by omega), m4f 1 (by omega) (by omega) (by omega) (by omega)]) (by rw [hM2, m4o 2 0 (by omega)]) hz
  -- nothing of the world is changed
  have inv0 : ∀ (C9 Me : sSt), KT sp C2 C9 → (∀ f, f ≠ 0 → f ≠ 10 → f ≠ 12 → f ≠ 13 → Me.1 0 0 f = M4.1 0 0 f) → Me.1 2 0 = M4.1 2 0 → Me.1 1 0 = w → C9.1 1 0 4 = Me.1 0 0 13 → Inv (n + 1) C9 Me := by
    intro C9 Me kk hM hM2 hMw e4
    have h2 : C9.2 = Sc.2 := kk.2.2.trans c22
    have hR' := endR C9 Me l sp hl12 hR.2.2.2.1 (by rw [h2]; exact hR.2.1) (by rw [h2]; exact hR.2.2.1) (by rw [h2]) kk.1 (by rw [kk.2.1 1 (by omega) (by omega)]; exact c21) hM hM2 e4
    refine Inv.mk (π := π) (ns := ns) (np := np) (nl := nl) hR' ?_ (c_le hc)
    rw [hMw]
    exact hB2.cells (fun k i q1 q2 => kk.1 k i (by unfold ow at *; omega) (by unfold ow at q1; omega)) (by rw [kk.2.2])
  rw [hl2, hs2]
  refine x_copyTable hB2 hr2 hne (fun C6 b6 k6 r6 _ => ?_)
  have s6 : C6.2 0 0 5 = sp := by rw [r6]; exact hs2
  have k26 : KT sp C2 C6 := k6.k r6
  rw [s6]
  have hOY : OY w B := ⟨π, ns, np, cm, nl, hB.2.1, hW, by omega⟩
  refine x_readInto hT t2 hBB (by rw [k26.2.1 2 (by omega) (by omega)]; exact c2L) (fun z hz => by rw [k26.1 2 0 (by unfold ow; omega) (by omega), c2o 2 0 (by omega)]; exact (hTl z hz).symm) ⟨π, ns, np, cm, nl, b6, by omega⟩ (fun w' y ep C9 k9 y9 w9 => ⟨fun _ => ?_, fun z => absurd z (by decide)⟩) (fun y ep hy C9 k9 w9 => ⟨fun z => absurd rfl z, fun _ => ?_⟩)
  · have kk : KT sp C2 C9 := k26.tr k9
    have h2 : C9.2 = Sc.2 := kk.2.2.trans c22
    have l9 : C9.2 0 0 4 = l := by rw [h2]; exact hR.2.1
    have s9 : C9.2 0 0 5 = sp := by rw [h2]; exact hR.2.2.1
    have hB9 : zB C9 l w π ns np cm nl := hB2.cells (fun k i q1 q2 => kk.1 k i (by unfold ow at *; omega) (by unfold ow at q1; omega)) (by rw [kk.2.2])
    have c9 : C9.1 13 l 9 = nI ed := (hB9.1.sca.1 2 (by omega)).trans eed
    rw [l9, c9, s9]
    -- the model, the text being well
    have good : ∀ {kk : Int32 → sSt → Prop}, (∀ S5 : sSt, NW M4 (uA S5 3 0 (M4.1 3 0)) → (∀ a b, ¬ (a = 0 ∧ b = 0) → ¬ (a = 1 ∧ b = 0) → ¬ (a = 3 ∧ b = 0) → S5.1 a b = M4.1 a b) → (∀ f, f ≠ 10 → f ≠ 12 → S5.1 0 0 f = M4.1 0 0 f) → S5.1 1 0 = w' → (∀ z, z < 1589 → S5.1 3 0 z = w z) → (∀ z, 1589 ≤ z ∨ z = 2 → w' z = w z) → B_X12_table_49 1 (-1) S5 kk) → F_X12_table Sm kk := by
      intro kk hk
      refine start (fun S' o' h3 => ?_)
      have r' : RM S' T L 0 := ⟨by rw [o' 0 0 (by omega), hM4, uI_at]; rfl, by rw [o' 0 0 (by omega), hM4, uI_nc (by omega), uI_nc (by omega), uI_at], fun z hz => by rw [o' 6 0 (by omega), m4o 6 0 (by omega), hTl z hz]; exact (t5 z hz).1.symm⟩
      refine m_readTable t2 hBB hOY (by rw [o' 1 0 (by omega)]; exact m4w) r' (fun w2 y2 ep2 k2 S5 n5 w5 => ⟨fun z => absurd z (by decide), fun _ => ?_⟩) (fun y2 ep2 S5 n5 b5 w5 => ?_)
      · rw [ep] at ep2
        cases ep2
        refine hk S5 ⟨fun a b z1 z2 => ?_, fun f f1 f2 => ?_⟩ (fun a b z1 z2 z3 => by rw [n5.1 a b z1 z2, o' a b z3]) (fun f f1 f2 => by rw [n5.2 f f1 f2, o' 0 0 (by omega)]) w5 (fun z hz => by rw [n5.1 3 0 (by omega) (by omega)]; exact h3 z hz) k2
        · by_cases z3 : a = 3 ∧ b = 0
          · rw [z3.1, z3.2]; exact uA_row _ _ _ _
          · rw [uA_other z3, n5.1 a b z1 z2, o' a b z3]
        · rw [uA_other (by omega), n5.2 f f1 f2, o' 0 0 (by omega)]
      · rw [ep] at ep2; cases ep2
    refine ⟨fun c => ?_, fun c => ⟨fun z => absurd z (by decide), fun _ => ⟨fun _ => ?_, fun z => absurd rfl z⟩⟩⟩
    · -- the tables change places
      have hed : ed < 12 := (nI_ltI (a := ed) (b := 12) (by omega) (by omega)).mp c
      rintro S15 e15 S16 e16 S18 e18
      have s16 : S16.2 0 0 4 = sp := by rw [e16, uR_nc (by omega), e15, uR_at]
      have s165 : S16.2 0 0 5 = l := by rw [e16, uR_at]
      have s161 : S16.1 = C9.1 := by rw [e16, e15]; rfl
      have s1614 : S16.2 14 = C9.2 14 := by
        rw [e16, e15]
        funext i
        rw [uR_other (by omega), uR_other (by omega)]
      obtain ⟨π', ns', np', cm', nl', hb', hB'⟩ := y9
      have b16 : zB S16 sp w' π' ns' np' cm' nl' := hb'.cells (fun k i _ _ => by rw [s161]) (by rw [s1614])
      have hlen' := hb'.2.1.len
      -- how many edits there were
      have w2 : w' 2 = nI ed := by
        exact (tab_w2 hOY hBB t2 ep).trans eed
      have c16 : S16.1 13 sp 9 = nI ed := (b16.1.sca.1 2 (by omega)).trans w2
      rw [s16, c16, nI_1] at e18
      have s18 : S18.2 = S16.2 := by rw [e18]; rfl
      rw [s18, s16]
      have c18 : S18.1 13 sp 9 = nI (ed + 1) := by rw [e18, uI_at]
      rw [c18]
      refine good (fun S5 _ o5 f5 w5 _ k5 => ?_)
      rw [B_X12_table_49]
      rintro S7 e7
      refine ⟨fun _ => ?_, fun z => absurd z (by decide)⟩
      rw [B_X12_table_62, m_throws0]
      refine ⟨fun z => absurd rfl z, fun _ => ?_⟩
      have w7 : S7.1 1 0 = w' := by rw [e7, uI_other (by omega)]; exact w5
      rw [w7, w2, show (12 : Int32) = nI 12 from rfl, nI_eq (by omega) (by omega)]
      refine ⟨fun _ => ?_, fun z => absurd z (by omega)⟩
      rw [B_X12_table_86, m_throws0]
      refine ⟨fun _ => ?_, fun z => absurd rfl z⟩
      rw [w7, w2, nI_1]
      rintro S21 e21
      have w21 : S21.1 1 0 = va_up w' 2 (nI (ed + 1)) := by
        have e7s : S7 = sw S7 w' := by rw [← w7, sw_s]
        rw [e21, e7s, sw_i, sw_w]
      have r21 : S21.1 1 0 2 = nI (ed + 1) := by rw [w21, up_eq]
      rw [r21]
      have hM : ∀ f, f ≠ 0 → f ≠ 10 → f ≠ 12 → f ≠ 13 → S21.1 0 0 f = M4.1 0 0 f := fun f q1 q2 q3 q4 => by rw [e21, uI_other (by omega), e7, uI_nc (by omega), f5 f q2 q3]
      have hM0 : S21.1 0 0 0 = 0 := by rw [e21, uI_other (by omega), e7, uI_nc (by omega), f5 0 (by omega) (by omega)]; exact m40
      have h14 : S18.2 14 = Sc.2 14 := by rw [s18, s1614, h2]
      have hR' := endR S18 S21 sp l (by omega) hB.1.ref (by rw [s18]; exact s16) (by rw [s18]; exact s165) h14 (fun a b z1 z2 => by rw [e18, uI_other (fun z => z1 (by unfold ow; omega)), s161, kk.1 a b z1 z2]) (by rw [e18, uI_other (by omega), s161, kk.2.1 1 (by omega) (by omega)]; exact c21) hM (by rw [e21, uI_other (by omega), e7, uI_other (by omega), o5 2 0 (by omega) (by omega) (by omega)]) (by rw [e18, uI_other (by omega), s161, w9, e21, uI_other (by omega), e7, uI_at])
      have hB18 : zB S18 sp (va_up w' 2 (nI (ed + 1))) π' ns' np' cm' nl' := by rw [e18]; exact b16.edit (by omega)
      exact tl_ok2 hM0 (Inv.mk (π := π') (ns := ns') (np := np') (nl := nl') hR' (by rw [w21]; exact hB18) (by omega)) rfl
    · have hed : ed = 12 := by
        rcases Nat.lt_or_ge ed 12 with z | z
        · exact absurd (nI_lt (b := 12) z (by omega)) c
        · omega
      refine good (fun S5 _ o5 f5 w5 h35 k5 => ?_)
      have w2 : w' 2 = nI ed := (k5 2 (Or.inr rfl)).trans eed
      rw [B_X12_table_49]
      rintro S7 e7
      refine ⟨fun _ => ?_, fun z => absurd z (by decide)⟩
      rw [B_X12_table_62, m_throws0]
      refine ⟨fun z => absurd rfl z, fun _ => ?_⟩
      have w7 : S7.1 1 0 = w' := by rw [e7, uI_other (by omega)]; exact w5
      rw [w7, w2, hed]
      refine ⟨fun z => absurd rfl z, fun _ => ?_⟩
      rw [B_X12_table_86, m_throws1]
      refine ⟨fun z => absurd z (by decide), fun _ => ?_⟩
      refine m_tab93 (w := w) (fun z hz => by rw [uI_other (by omega), e7, uI_other (by omega)]; exact h35 z hz) (fun z hz => by rw [uI_other (by omega), w7]; exact k5 z (Or.inl hz)) (fun S' o' w'' => ?_)
      have hI := inv0 C9 S' kk (fun f q1 q2 q3 q4 => by rw [o' 0 0 (by omega), uI_nc (by omega), e7, uI_nc (by omega), f5 f q2 q3]) (by rw [o' 2 0 (by omega), uI_other (by omega), e7, uI_other (by omega), o5 2 0 (by omega) (by omega) (by omega)]) w'' (by rw [w9, o' 0 0 (by omega), uI_nc (by omega), e7, uI_at])
      exact tl_ex2 (by rw [o' 0 0 (by omega), uI_at]) (by decide) hI
  · have kk : KT sp C2 C9 := k26.tr k9
    refine ⟨fun _ => ?_, fun z => absurd rfl z⟩
    refine start (fun S' o' h3 => ?_)
    have r' : RM S' T L 0 := ⟨by rw [o' 0 0 (by omega), hM4, uI_at]; rfl, by rw [o' 0 0 (by omega), hM4, uI_nc (by omega), uI_nc (by omega), uI_at], fun z hz => by rw [o' 6 0 (by omega), m4o 6 0 (by omega), hTl z hz]; exact (t5 z hz).1.symm⟩
    refine m_readTable t2 hBB hOY (by rw [o' 1 0 (by omega)]; exact m4w) r' (fun w2 y2 ep2 k2 S5 n5 w5 => ?_) (fun y2 ep2 S5 n5 b5 w5 => ⟨fun _ => ?_, fun z => absurd rfl z⟩)
    · rw [ep] at ep2; cases ep2
    · rw [ep] at ep2
      cases ep2
      rw [B_X12_table_49]
      rintro S7 e7
      refine ⟨fun z => absurd rfl z, fun _ => ?_⟩
      rw [B_X12_table_62, m_throws1]
      refine ⟨fun _ => ?_, fun z => absurd z (by decide)⟩
      refine m_tab93 (w := w) (fun z hz => by rw [uI_other (by omega), e7, uI_other (by omega), n5.1 3 0 (by omega) (by omega)]; exact h3 z hz) (fun z hz => by rw [uI_other (by omega), e7, uI_other (by omega)]; exact w5 z hz) (fun Se oe we => ?_)
      have hI := inv0 C9 Se kk (fun f q1 q2 q3 q4 => by rw [oe 0 0 (by omega), uI_nc (by omega), e7, uI_nc (by omega), n5.2 f q2 q3, o' 0 0 (by omega)]) (by rw [oe 2 0 (by omega), uI_other (by omega), e7, uI_other (by omega), n5.1 2 0 (by omega) (by omega), o' 2 0 (by omega)]) we (by rw [w9, oe 0 0 (by omega), uI_nc (by omega), e7, uI_at]; exact b5.symm)
      exact tl_ex2 (by rw [oe 0 0 (by omega), uI_at]) (by decide) hI
end CS
end PU79
