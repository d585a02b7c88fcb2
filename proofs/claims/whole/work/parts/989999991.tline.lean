section PU77
/-! CALL table: lines, of both sides -/
def rst (T : Nat → Int32) (L : Nat) (w : Wd) (x : Nat) : Option Wd × Nat :=
  if wrd T L 12 x = true then ppa T L w (el T L (bl T L x)) else if wrd T L 13 x = true then pst T L w 9 1 60 (el T L (bl T L x)) else if wrd T L 14 x = true then pst T L w 10 1 9 (el T L (bl T L x)) else if wrd T L 15 x = true then pst T L w 11 1 99 (el T L (bl T L x)) else if wrd T L 16 x = true then pst T L w 12 0 9 (el T L (bl T L x)) else if wrd T L 17 x = true then pst T L w 13 1 9 (el T L (bl T L x)) else (none, bl T L x)
section TX
variable {S S' S1 : sSt} {T : Nat → Int32} {L x y b f lo hi t p B : Nat} {w : Wd} {ns np cm nl : Nat} {π : List Nat} {wr : Int32}
theorem wrd_ne {i i' : Nat} (hne : ¬ (lenTx.getD i 0 = lenTx.getD i' 0 ∧ ∀ j, j < lenTx.getD i 0 → chTx i j = chTx i' j)) (h : wrd T L i x = true) : wrd T L i' x = false := by
  cases q : wrd T L i' x
  · rfl
  · unfold wrd at h q
    exact absurd (isW_x h q) hne
theorem x_rest (hT : byt T) (hb : zB S t w π ns np cm nl) (hB : cm + 24 ≤ B + π.length) (h : RC S T L (bl T L x) (-1)) (hx : x ≤ L) (hL : L ≤ 400) {P : Option Wd × Nat} (hP : P = rst T L w x) {k : sSt → Prop} (h1 : ∀ w' y, P = (some w', y) → y ≤ L → ∀ S', KT t S S' → zY S' t w' B → RC S' T L (bl T L y) (-1) → k S') (h0 : ∀ y, P = (none, y) → y ≤ L → ∀ S' p, KT t S S' → p ≤ L → RC S' T L p (nI y) → k S') : B_X7_readLine_76 t S k := by
  have c2 := el_bl_le (T := T) hL hx
  have hW := hb.2.2.1
  subst hP
  rw [B_X7_readLine_76]
  refine x_word hT (by omega) h hx hL (fun q S1 n1 r1 => ⟨fun z => absurd z (by decide), fun _ => ?_⟩) (fun q12 => ⟨fun _ => ?_, fun z => absurd rfl z⟩)
  · have e : rst T L w x = ppa T L w (el T L (bl T L x)) := by unfold rst; rw [if_pos q]
    rw [e] at h1 h0
    exact x_par hT (hb.nc n1) hB r1 c2 hL (fun w' y e' hy S' kk yy r' => h1 w' y e' hy S' (n1.k.tr kk) yy r') (fun y e' hy S' p kk hp r' => h0 y e' hy S' p (n1.k.tr kk) hp r')
  rw [F_X7_readSetting]
  have set : ∀ (f lo hi : Nat) (S1 : sSt), 9 ≤ f ∧ f ≤ 13 → lo ≤ 999 → hi ≤ 999 → (∀ v, lo ≤ v → v ≤ hi → WF (va_up w f (nI v)) ns np cm nl) → NC S S1 → RC S1 T L (bl T L (el T L (bl T L x))) (-1) → rst T L w x = pst T L w f lo hi (el T L (bl T L x)) → F_X8_number (nI lo) (nI hi) S1 (fun r S2 => ∀ S3, S3 = uI S2 18 t (f - 9) r → k S3) := by
    intro f lo hi S1 hf hlo hhi hok n1 r1 e
    rw [e] at h1 h0
    exact x_set1 hT (hb.nc n1) hB r1 c2 hL hf hhi hlo hok (fun w' y e' hy S' kk yy r' => h1 w' y e' hy S' (n1.k.tr kk) yy r') (fun y e' hy S' p kk hp r' => h0 y e' hy S' p (n1.k.tr kk) hp r')
  refine x_word hT (by omega) h hx hL (fun q S1 n1 r1 => ⟨fun z => absurd z (by decide), fun _ => set 9 1 60 S1 (by omega) (by omega) (by omega) (fun v a b => hW.set (by omega) (fun z => absurd z (by omega)) (fun z => absurd z (by omega)) (fun z => absurd z (by omega)) (fun z => absurd z (by omega)) (fun z => absurd z (by omega))) n1 r1 (by unfold rst; rw [if_neg (by rw [q12]; decide), if_pos q])⟩) (fun q13 => ⟨fun _ => ?_, fun z => absurd rfl z⟩)
  refine x_word hT (by omega) h hx hL (fun q S1 n1 r1 => ⟨fun z => absurd z (by decide), fun _ => set 10 1 9 S1 (by omega) (by omega) (by omega) (fun v a b => hW.set (by omega) (fun _ => ⟨v, a, b, rfl⟩) (fun z => absurd z (by omega)) (fun z => absurd z (by omega)) (fun z => absurd z (by omega)) (fun z => absurd z (by omega))) n1 r1 (by unfold rst; rw [if_neg (by rw [q12]; decide), if_neg (by rw [q13]; decide), if_pos q])⟩) (fun q14 => ⟨fun _ => ?_, fun z => absurd rfl z⟩)
  refine x_word hT (by omega) h hx hL (fun q S1 n1 r1 => ⟨fun z => absurd z (by decide), fun _ => set 11 1 99 S1 (by omega) (by omega) (by omega) (fun v a b => hW.set (by omega) (fun z => absurd z (by omega)) (fun _ => ⟨v, a, b, rfl⟩) (fun z => absurd z (by omega)) (fun z => absurd z (by omega)) (fun z => absurd z (by omega))) n1 r1 (by unfold rst; rw [if_neg (by rw [q12]; decide), if_neg (by rw [q13]; decide), if_neg (by rw [q14]; decide), if_pos q])⟩) (fun q15 => ⟨fun _ => ?_, fun z => absurd rfl z⟩)
  refine x_word hT (by omega) h hx hL (fun q S1 n1 r1 => ⟨fun z => absurd z (by decide), fun _ => set 12 0 9 S1 (by omega) (by omega) (by omega) (fun v a b => hW.set (by omega) (fun z => absurd z (by omega)) (fun z => absurd z (by omega)) (fun _ => ⟨v, b, rfl⟩) (fun z => absurd z (by omega)) (fun z => absurd z (by omega))) n1 r1 (by unfold rst; rw [if_neg (by rw [q12]; decide), if_neg (by rw [q13]; decide), if_neg (by rw [q14]; decide), if_neg (by rw [q15]; decide), if_pos q])⟩) (fun q16 => ⟨fun _ => ?_, fun z => absurd rfl z⟩)
  refine x_word hT (by omega) h hx hL (fun q S1 n1 r1 => ⟨fun z => absurd z (by decide), fun _ => set 13 1 9 S1 (by omega) (by omega) (by omega) (fun v a b => hW.set (by omega) (fun z => absurd z (by omega)) (fun z => absurd z (by omega)) (fun z => absurd z (by omega)) (fun _ => ⟨v, a, b, rfl⟩) (fun z => absurd z (by omega))) n1 r1 (by unfold rst; rw [if_neg (by rw [q12]; decide), if_neg (by rw [q13]; decide), if_neg (by rw [q14]; decide), if_neg (by rw [q15]; decide), if_neg (by rw [q16]; decide), if_pos q])⟩) (fun q17 => ⟨fun _ => ?_, fun z => absurd rfl z⟩)
  have e : rst T L w x = (none, bl T L x) := by unfold rst; rw [if_neg (by rw [q12]; decide), if_neg (by rw [q13]; decide), if_neg (by rw [q14]; decide), if_neg (by rw [q15]; decide), if_neg (by rw [q16]; decide), if_neg (by rw [q17]; decide)]
  have b2 := (bl_ok (T := T) hL hx).2.1
  exact x_refuse h (fun S' n' r' => h0 _ e b2 S' _ n'.k b2 r')
theorem rst_no (h : ∀ i, i = 12 ∨ i = 13 ∨ i = 14 ∨ i = 15 ∨ i = 16 ∨ i = 17 → wrd T L i x = false) : rst T L w x = (none, bl T L x) := by
  unfold rst
  rw [if_neg (by rw [h 12 (by omega)]; decide), if_neg (by rw [h 13 (by omega)]; decide), if_neg (by rw [h 14 (by omega)]; decide), if_neg (by rw [h 15 (by omega)]; decide), if_neg (by rw [h 16 (by omega)]; decide), if_neg (by rw [h 17 (by omega)]; decide)]
theorem x_line (hT : byt T) (hb : zB S t w π ns np cm nl) (hB : cm + 24 ≤ B + π.length) (hBB : B < 999000) (h : RC S T L (bl T L x) (-1)) (hx : x ≤ L) (hL : L ≤ 400) {k : sSt → Prop} (h1 : ∀ w' y, pln T L w x = (some w', y) → y ≤ L → ∀ S', KT t S S' → zY S' t w' B → RC S' T L (bl T L y) (-1) → k S') (h0 : ∀ y, pln T L w x = (none, y) → y ≤ L → ∀ S' p, KT t S S' → p ≤ L → RC S' T L p (nI y) → k S') : F_X7_readLine t S k := by
  have c2 := el_bl_le (T := T) hL hx
  have hW := hb.2.2.1
  have hO := hb.2.1
  have hlen := hO.len
  have hns := hW.hns
  have hnp := hW.hnp
  have e6 : S.1 13 t 6 = nI π.length := hb.1.size
  have e7 : S.1 13 t 7 = nI ns := (hb.1.sca.1 0 (by omega)).trans hns.2
  have e8 : S.1 13 t 8 = nI np := (hb.1.sca.1 1 (by omega)).trans hnp.2
  -- which word it is tells what the line says
  have full : π.length = 24 → ∀ xx bb, pjob T L w xx bb = (none, bb) := fun hf xx bb => by
    unfold pjob
    cases q : frs w 0 24 with
    | none => rfl
    | some j =>
      obtain ⟨-, hj, hl, -⟩ := frs_some 24 0 q
      have := len_free hO (show j < 24 by omega) hl
      omega
  have sfull : ns = 4 → ∀ xx bb, pses T L w xx bb = (none, bb) := fun hf xx bb => by unfold pses; rw [if_pos (by rw [hns.2, hf]; rfl)]
  have pfull : np = 4 → ∀ xx bb, ppl T L w xx bb = (none, bb) := fun hf xx bb => by unfold ppl; rw [if_pos (by rw [hnp.2, hf]; rfl)]
  have g0 : wrd T L 0 x = true → pln T L w x = pjob T L w (el T L (bl T L x)) (bl T L x) := fun q => by unfold pln; rw [if_pos q]
  have g5 : wrd T L 5 x = true → pln T L w x = pses T L w (el T L (bl T L x)) (bl T L x) := fun q => by
    unfold pln
    rw [if_neg (by rw [wrd_ne (i := 5) (i' := 0) (by decide) q]; decide), if_pos q]
  have g8 : wrd T L 8 x = true → pln T L w x = ppl T L w (el T L (bl T L x)) (bl T L x) := fun q => by
    unfold pln
    rw [if_neg (by rw [wrd_ne (i := 8) (i' := 0) (by decide) q]; decide), if_neg (by rw [wrd_ne (i := 8) (i' := 5) (by decide) q]; decide), if_neg (by rw [wrd_ne (i := 8) (i' := 12) (by decide) q]; decide), if_pos q]
  have gr : ¬ (wrd T L 0 x = true ∧ π.length < 24) → ¬ (wrd T L 5 x = true ∧ ns < 4) → ¬ (wrd T L 8 x = true ∧ np < 4) → pln T L w x = rst T L w x := by
    intro q0 q5 q8
    by_cases c0 : wrd T L 0 x = true
    · rw [g0 c0, full (by by_cases z : π.length < 24; exact absurd ⟨c0, z⟩ q0; omega)]
      refine (rst_no (fun i hi => ?_)).symm
      rcases hi with rfl | rfl | rfl | rfl | rfl | rfl <;> exact wrd_ne (i := 0) (by decide) c0
    · by_cases c5 : wrd T L 5 x = true
      · rw [g5 c5, sfull (by by_cases z : ns < 4; exact absurd ⟨c5, z⟩ q5; omega)]
        refine (rst_no (fun i hi => ?_)).symm
        rcases hi with rfl | rfl | rfl | rfl | rfl | rfl <;> exact wrd_ne (i := 5) (by decide) c5
      · by_cases c8 : wrd T L 8 x = true
        · rw [g8 c8, pfull (by by_cases z : np < 4; exact absurd ⟨c8, z⟩ q8; omega)]
          refine (rst_no (fun i hi => ?_)).symm
          rcases hi with rfl | rfl | rfl | rfl | rfl | rfl <;> exact wrd_ne (i := 8) (by decide) c8
        · unfold pln rst
          rw [if_neg c0, if_neg c5, if_neg c8]
  rw [F_X7_readLine, e6]
  have l51 : ¬ (wrd T L 0 x = true ∧ π.length < 24) → ¬ (wrd T L 5 x = true ∧ ns < 4) → B_X7_readLine_51 t S k := by
    intro q0 q5
    rw [B_X7_readLine_51, e8]
    refine ⟨fun c => ?_, fun c => ?_⟩
    · have hf : ¬ np < 4 := fun z => absurd c (nI_ge (b := 4) z (by omega))
      exact x_rest hT hb hB h hx hL (gr q0 q5 (fun z => hf z.2)) h1 h0
    · have hf : np < 4 := by
        rcases Nat.lt_or_ge np 4 with z | z
        · exact z
        · exact absurd (nI_le (a := 4) z (by omega)) c
      refine x_word hT (by omega) h hx hL (fun q S1 n1 r1 => ⟨fun z => absurd z (by decide), fun _ => ?_⟩) (fun q => ⟨fun _ => x_rest hT hb hB h hx hL (gr q0 q5 (fun z => by rw [q] at z; exact absurd z.1 (by decide))) h1 h0, fun z => absurd rfl z⟩)
      rw [g8 q] at h1 h0
      exact x_plan (b := bl T L x) hT (hb.nc n1) hB r1 c2 hL hf (fun w' y e' hy S' kk yy r' => h1 w' y e' hy S' (n1.k.tr kk) yy r') (fun y e' hy S' p kk hp r' => h0 y e' hy S' p (n1.k.tr kk) hp r')
  have l26 : ¬ (wrd T L 0 x = true ∧ π.length < 24) → B_X7_readLine_26 t S k := by
    intro q0
    rw [B_X7_readLine_26, e7]
    refine ⟨fun c => ?_, fun c => ?_⟩
    · have hf : ¬ ns < 4 := fun z => absurd c (nI_ge (b := 4) z (by omega))
      exact l51 q0 (fun z => hf z.2)
    · have hf : ns < 4 := by
        rcases Nat.lt_or_ge ns 4 with z | z
        · exact z
        · exact absurd (nI_le (a := 4) z (by omega)) c
      refine x_word hT (by omega) h hx hL (fun q S1 n1 r1 => ⟨fun z => absurd z (by decide), fun _ => ?_⟩) (fun q => ⟨fun _ => l51 q0 (fun z => by rw [q] at z; exact absurd z.1 (by decide)), fun z => absurd rfl z⟩)
      rw [g5 q] at h1 h0
      exact x_ses (b := bl T L x) hT (hb.nc n1) hB r1 c2 hL hf (fun w' y e' hy S' kk yy r' => h1 w' y e' hy S' (n1.k.tr kk) yy r') (fun y e' hy S' p kk hp r' => h0 y e' hy S' p (n1.k.tr kk) hp r')
  refine ⟨fun c => ?_, fun c => ?_⟩
  · have hf : ¬ π.length < 24 := fun z => absurd c (nI_ge (b := 24) z (by omega))
    exact l26 (fun z => hf z.2)
  · have hf : π.length < 24 := by
      rcases Nat.lt_or_ge π.length 24 with z | z
      · exact z
      · exact absurd (nI_le (a := 24) z (by omega)) c
    refine x_word hT (by omega) h hx hL (fun q S1 n1 r1 => ⟨fun z => absurd z (by decide), fun _ => ?_⟩) (fun q => ⟨fun _ => l26 (fun z => by rw [q] at z; exact absurd z.1 (by decide)), fun z => absurd rfl z⟩)
    rw [g0 q] at h1 h0
    exact x_job (b := bl T L x) hT (hb.nc n1) hB hBB r1 c2 hL hf (fun w' y e' hy S' kk yy r' => h1 w' y e' hy S' (n1.k.tr kk) yy r') (fun y e' hy S' p kk hp r' => h0 y e' hy S' p (n1.k.tr kk) hp r')
/-! what a line leaves well-formed -/
def OY (w : Wd) (B : Nat) : Prop := ∃ π ns np cm nl, zOrd w π ∧ WF w ns np cm nl ∧ cm + 24 ≤ B + π.length
theorem bnd_e {α β : Type} {o : Option α × Nat} {f : α → Nat → Option β × Nat} {v : β} {y : Nat} (h : bnd o f = (some v, y)) : ∃ a z, o = (some a, z) ∧ f a z = (some v, y) := by
  rcases o with ⟨_ | a, z⟩
  · cases h
  · exact ⟨a, z, rfl, h⟩
theorem pnum_v {v : Nat} (hL : L ≤ 400) (hx : x ≤ L) (h : pnum T L lo hi x = (some v, y)) : lo ≤ v ∧ v ≤ hi ∧ y ≤ L := by
  have := pnum_ok (T := T) (lo := lo) (hi := hi) hL hx
  rw [h] at this
  exact ⟨(this.2 v rfl).1, (this.2 v rfl).2, this.1⟩
theorem pbeh_v {i v : Nat} (hL : L ≤ 400) (hx : x ≤ L) (h : pbeh T L i lo hi x = (some v, y)) : lo ≤ v ∧ v ≤ hi ∧ y ≤ L := by
  unfold pbeh at h
  split at h
  · exact pnum_v hL (el_bl_le hL hx) h
  · cases h
theorem pln_ok {w' : Wd} (hL : L ≤ 400) (hx : x ≤ L) (hY : OY w B) (hBB : B < 999000) (h : pln T L w x = (some w', y)) : OY w' B ∧ (∀ z, 1589 ≤ z ∨ z = 2 → w' z = w z) ∧ y ≤ L := by
  obtain ⟨π, ns, np, cm, nl, hO, hW, hB⟩ := hY
  have c2 := el_bl_le (T := T) hL hx
  have hlen := hO.len
  have hns := hW.hns
  have hnp := hW.hnp
  have setc : ∀ f lo hi, 9 ≤ f ∧ f ≤ 13 → (∀ v, lo ≤ v → v ≤ hi → WF (va_up w f (nI v)) ns np cm nl) → pst T L w f lo hi (el T L (bl T L x)) = (some w', y) → OY w' B ∧ (∀ z, 1589 ≤ z ∨ z = 2 → w' z = w z) ∧ y ≤ L := by
    intro f lo hi hf hok e
    obtain ⟨v, z, e1, e2⟩ := bnd_e e
    cases e2
    obtain ⟨a, b, c⟩ := pnum_v hL c2 e1
    exact ⟨⟨π, ns, np, cm, nl, hO.c (fun j _ => up_ne (by omega)), hok v a b, hB⟩, fun z hz => up_ne (by omega), c⟩
  unfold pln at h
  split at h
  · unfold pjob at h
    cases hf : frs w 0 24 with
    | none => rw [hf] at h; cases h
    | some j =>
      rw [hf] at h
      simp only [] at h
      obtain ⟨-, hj, hl, -⟩ := frs_some 24 0 hf
      have hlt := len_free hO (show j < 24 by omega) hl
      obtain ⟨g, z1, e1, h⟩ := bnd_e h
      obtain ⟨pr, z2, e2, h⟩ := bnd_e h
      obtain ⟨co, z3, e3, h⟩ := bnd_e h
      obtain ⟨tt, z4, e4, h⟩ := bnd_e h
      cases h
      obtain ⟨-, g5, y1⟩ := pbeh_v hL c2 e1
      obtain ⟨-, -, y2⟩ := pbeh_v hL y1 e2
      obtain ⟨co1, co9, y3⟩ := pbeh_v hL y2 e3
      have t9 : tt ≤ 99 ∧ y ≤ L := by
        unfold pin at e4
        split at e4
        · exact (pnum_v hL (el_bl_le hL y3) e4).2
        · cases e4; exact ⟨by omega, (bl_ok (T := T) hL y3).2.1⟩
      obtain ⟨mo, hmo, emo⟩ := hW.mono
      refine ⟨⟨π ++ [j], ns, np, cm + 1, nl, hO.new hW (by omega) hl, hW.new (by omega) (by omega) hl ⟨rfl, rfl⟩ (show g < 6 by omega) co1 co9 (show mo + tt ≤ 10107 by omega) (by rw [emo, nI_add]), by rw [List.length_append, List.length_singleton]; omega⟩, fun z hz => wnew_out (by omega) (by omega), t9.2⟩
  · split at h
    · unfold pses at h
      split at h
      · cases h
      · rename_i c
        obtain ⟨v, z, e1, h⟩ := bnd_e h
        cases h
        have hlt : ns < 4 := by
          have : ns ≠ 4 := fun q => c (by rw [hns.2, q]; rfl)
          omega
        have ens : (w 0).toNatClampNeg = ns := by rw [hns.2]; exact nI_clamp (by omega)
        rw [ens]
        have hy : y ≤ L := by
          unfold pske at e1
          split at e1
          · obtain ⟨v', z', e2, e3⟩ := bnd_e e1
            cases e3
            exact (pnum_v hL (el_bl_le hL c2) e2).2.2
          · split at e1
            · obtain ⟨v', z', e2, e3⟩ := bnd_e e1
              cases e3
              exact (pnum_v hL (el_bl_le hL c2) e2).2.2
            · cases e1; exact (bl_ok (T := T) hL c2).2.1
        exact ⟨⟨π, ns + 1, np, cm, nl, hO.c (fun j _ => wse_o (by omega) (by omega)), hW.newS hlt, hB⟩, fun z hz => wse_o (by omega) (by omega), hy⟩
    · split at h
      · unfold ppa at h
        obtain ⟨g, z1, e1, h⟩ := bnd_e h
        obtain ⟨v, z2, e2, h⟩ := bnd_e h
        cases h
        obtain ⟨-, g5, y1⟩ := pnum_v hL c2 e1
        obtain ⟨v1, v4, y2⟩ := pnum_v hL y1 e2
        exact ⟨⟨π, ns, np, cm, nl, hO.c (fun j _ => up_ne (by omega)), hW.set (f := 15 + g) (v := nI v) (by omega) (fun q => by omega) (fun q => by omega) (fun q => by omega) (fun q => by omega) (fun _ => ⟨v, v1, v4, rfl⟩), hB⟩, fun z hz => up_ne (by omega), y2⟩
      · split at h
        · unfold ppl at h
          split at h
          · cases h
          · rename_i c
            have hlt : np < 4 := by
              have : np ≠ 4 := fun q => c (by rw [hnp.2, q]; rfl)
              omega
            have enp : (w 1).toNatClampNeg = np := by rw [hnp.2]; exact nI_clamp (by omega)
            obtain ⟨e, z1, e1, h⟩ := bnd_e h
            obtain ⟨a, z2, e2, h⟩ := bnd_e h
            obtain ⟨g, z3, e3, h⟩ := bnd_e h
            obtain ⟨pr, z4, e4, h⟩ := bnd_e h
            obtain ⟨co, z5, e5, h⟩ := bnd_e h
            obtain ⟨mx, z6, e6, h⟩ := bnd_e h
            cases h
            rw [enp]
            obtain ⟨l1, l60, y1⟩ := pnum_v hL c2 e1
            obtain ⟨-, a59, y2⟩ := pbeh_v hL y1 e2
            obtain ⟨-, g5, y3⟩ := pbeh_v hL y2 e3
            obtain ⟨-, -, y4⟩ := pbeh_v hL y3 e4
            obtain ⟨co1, co9, y5⟩ := pbeh_v hL y4 e5
            have hy : y ≤ L := by
              unfold pmod at e6
              split at e6
              · cases e6; exact el_bl_le hL y5
              · split at e6
                · obtain ⟨v', z', e7, e8⟩ := bnd_e e6
                  cases e8
                  exact (pnum_v hL (el_bl_le hL y5) e7).2.2
                · cases e6; exact (bl_ok (T := T) hL y5).2.1
            exact ⟨⟨π, ns, np + 1, cm, nl, hO.c (fun j _ => wpn_o (by omega) (by omega)), hW.newP hlt ⟨l1, l60⟩ a59 (by omega) ⟨co1, co9⟩, hB⟩, fun z hz => wpn_o (by omega) (by omega), hy⟩
        · split at h
          · exact setc 9 1 60 (by omega) (fun v a b => hW.set (by omega) (fun z => absurd z (by omega)) (fun z => absurd z (by omega)) (fun z => absurd z (by omega)) (fun z => absurd z (by omega)) (fun z => absurd z (by omega))) h
          · split at h
            · exact setc 10 1 9 (by omega) (fun v a b => hW.set (by omega) (fun _ => ⟨v, a, b, rfl⟩) (fun z => absurd z (by omega)) (fun z => absurd z (by omega)) (fun z => absurd z (by omega)) (fun z => absurd z (by omega))) h
            · split at h
              · exact setc 11 1 99 (by omega) (fun v a b => hW.set (by omega) (fun z => absurd z (by omega)) (fun _ => ⟨v, a, b, rfl⟩) (fun z => absurd z (by omega)) (fun z => absurd z (by omega)) (fun z => absurd z (by omega))) h
              · split at h
                · exact setc 12 0 9 (by omega) (fun v a b => hW.set (by omega) (fun z => absurd z (by omega)) (fun z => absurd z (by omega)) (fun _ => ⟨v, b, rfl⟩) (fun z => absurd z (by omega)) (fun z => absurd z (by omega))) h
                · split at h
                  · exact setc 13 1 9 (by omega) (fun v a b => hW.set (by omega) (fun z => absurd z (by omega)) (fun z => absurd z (by omega)) (fun z => absurd z (by omega)) (fun _ => ⟨v, a, b, rfl⟩) (fun z => absurd z (by omega))) h
                  · cases h
end TX
end PU77
