section PU75
/-! CALL table: the class reads lines -/
/-- the class's frame: a table's own cells and where the reader stands -/
def KT (t : Nat) (S S' : sSt) : Prop := (∀ a b, ¬ ow t a b → ¬ (a = 1 ∧ b = 0) → S'.1 a b = S.1 a b) ∧ (∀ f, f ≠ 3 → f ≠ 4 → S'.1 1 0 f = S.1 1 0 f) ∧ S'.2 = S.2
def zY (S : sSt) (t : Nat) (w : Wd) (B : Nat) : Prop := ∃ π ns np cm nl, zB S t w π ns np cm nl ∧ cm + 24 ≤ B + π.length
section TX
variable {S S' S1 : sSt} {T : Nat → Int32} {L x y b f lo hi t p B : Nat} {w : Wd} {ns np cm nl : Nat} {π : List Nat} {wr : Int32}
theorem KT.rfl : KT t S S := ⟨fun _ _ _ _ => Eq.refl _, fun _ _ _ => Eq.refl _, Eq.refl _⟩
theorem KT.tr (h : KT t S S1) (g : KT t S1 S') : KT t S S' := ⟨fun a b q1 q2 => (g.1 a b q1 q2).trans (h.1 a b q1 q2), fun f q1 q2 => (g.2.1 f q1 q2).trans (h.2.1 f q1 q2), g.2.2.trans h.2.2⟩
theorem NC.k (h : NC S S') : KT t S S' := ⟨fun a b _ q => h.1 a b q, h.2.1, h.2.2⟩
theorem KP.k (h : KP t S S') (h2 : S'.2 = S.2) : KT t S S' := ⟨fun a b q _ => h.1 a b q, fun f _ _ => by rw [h.1 1 0 (by unfold ow; omega)], h2⟩
theorem RC.k (h : RC S T L p wr) (g : KP t S S') : RC S' T L p wr := by
  have e1 : S'.1 1 0 = S.1 1 0 := g.1 1 0 (by unfold ow; omega)
  have e2 : S'.1 2 0 = S.1 2 0 := g.1 2 0 (by unfold ow; omega)
  exact ⟨by rw [e1]; exact h.1, by rw [e1]; exact h.2.1, by rw [e1]; exact h.2.2.1, fun z hz => by rw [e2]; exact h.2.2.2 z hz⟩
theorem zB.nc (h : zB S t w π ns np cm nl) (g : NC S S') : zB S' t w π ns np cm nl := h.cells (fun k i q1 _ => g.1 k i (by unfold ow at q1; omega)) (by rw [g.2.2])
/-- a number that fails in the end: nothing more is taken -/
theorem x_behw (hT : byt T) (h : RC S T L p (nI y)) (hp : p ≤ L) (hy : y ≤ L) (hL : L ≤ 400) {i : Nat} {k : Int32 → sSt → Prop} (hk : k (-1) S) : F_X8_numberBehind i (nI lo) (nI hi) S k := x_numberBehind0 hT h (ni_m1 (by omega)) hp hL hk
theorem x_job (hT : byt T) (hb : zB S t w π ns np cm nl) (hB : cm + 24 ≤ B + π.length) (hBB : B < 999000) (h : RC S T L (bl T L x) (-1)) (hx : x ≤ L) (hL : L ≤ 400) (hlt : π.length < 24) {k : sSt → Prop} (h1 : ∀ w' y, pjob T L w x b = (some w', y) → y ≤ L → ∀ S', KT t S S' → zY S' t w' B → RC S' T L (bl T L y) (-1) → k S') (h0 : ∀ y, pjob T L w x b = (none, y) → y ≤ L → ∀ S' p, KT t S S' → p ≤ L → RC S' T L p (nI y) → k S') : F_X7_readJob t S k := by
  have hO := hb.2.1
  have hW := hb.2.2.1
  obtain ⟨mo, hmo, emo⟩ := hW.mono
  cases hf : frs w 0 24 with
  | none => have := len_full hO (fun z hz => frs_none 24 0 hf z (by omega) (by omega)); omega
  | some j =>
    obtain ⟨-, hj, hl, -⟩ := frs_some 24 0 hf
    have hj24 : j < 24 := by omega
    have e0 : pjob T L w x b = bnd (pbeh T L 1 0 5 x) (fun g x1 => bnd (pbeh T L 2 0 9 x1) (fun p x2 => bnd (pbeh T L 3 1 9 x2) (fun c x3 => bnd (pin T L x3) (fun t x4 => (some (wnew w j 3 1 (nI g) (nI p) (nI c) (w 3 + nI t)), x4))))) := by unfold pjob; rw [hf]
    obtain ⟨P, hP⟩ : ∃ P, P = pjob T L w x b := ⟨_, rfl⟩
    rw [← hP] at h1 h0 e0
    have l50 : ∀ (a1 a2 a3 a4 : Int32) (S' : sSt) (p y : Nat), NC S S' → p ≤ L → y ≤ L → RC S' T L p (nI y) → P = (none, y) → B_X7_readJob_50 t a1 a2 a3 a4 S' k := fun a1 a2 a3 a4 S' p y n' hp hy r' e => by
      rw [B_X7_readJob_50]
      exact x_isRight (fun z => absurd z (r'.ne hy hL)) (fun _ => ⟨fun z => absurd rfl z, fun _ => h0 y e hy S' p n'.k hp r'⟩)
    have l4 : ∀ (a1 a2 a3 : Int32) (S' : sSt) (p y : Nat), NC S S' → p ≤ L → y ≤ L → RC S' T L p (nI y) → P = (none, y) → F_X8_takeWord 4 S' (fun r7 S8 => ((r7 = 0 → B_X7_readJob_50 t a1 a2 a3 0 S8 k) ∧ (¬ r7 = 0 → F_X8_number 0 99 S8 (fun r18 S19 => B_X7_readJob_50 t a1 a2 a3 r18 S19 k)))) := fun a1 a2 a3 S' p y n' hp hy r' e => x_takeWord0 (r'.ne hy hL) ⟨fun _ => l50 _ _ _ _ S' p y n' hp hy r' e, fun z => absurd rfl z⟩
    rw [F_X7_readJob]
    refine x_beh (lo := 0) (hi := 5) hT (by omega) (by omega) (by omega) h hx hL (fun g y1 e1 _ g5 hy1 S1 n1 r1 => ?_) (fun y1 e1 hy1 S1 n1 r1 => ?_)
    · refine x_beh (lo := 0) (hi := 9) hT (by omega) (by omega) (by omega) r1 hy1 hL (fun p y2 e2 _ p9 hy2 S2 n2 r2 => ?_) (fun y2 e2 hy2 S2 n2 r2 => ?_)
      · refine x_beh (lo := 1) (hi := 9) hT (by omega) (by omega) (by omega) r2 hy2 hL (fun c y3 e3 c1 c9 hy3 S3 n3 r3 => ?_) (fun y3 e3 hy3 S3 n3 r3 => ?_)
        · have nn := n1.tr (n2.tr n3)
          have good : ∀ (tt y4 : Nat) (S4 : sSt), tt ≤ 99 → pin T L y3 = (some tt, y4) → y4 ≤ L → NC S3 S4 → RC S4 T L (bl T L y4) (-1) → B_X7_readJob_50 t (nI g) (nI p) (nI c) (nI tt) S4 k := by
            intro tt y4 S4 t9 e4 hy4 n4 r4
            have b4 := hb.nc (nn.tr n4)
            rw [B_X7_readJob_50]
            refine x_isRight (fun _ => ⟨fun _ => ?_, fun z => absurd z (by decide)⟩) (fun z => absurd r4.2.2.1 z)
            refine x_addJob b4 hlt (by omega) hj24 hl (by omega) c1 c9 hmo emo (fun S5 b5 k5 r5 => opt_s.mpr ?_)
            have c10 : S5.1 13 t 10 = nI mo := (b5.1.sca.1 3 (by omega)).trans (by rw [wnew_out (by omega) (by omega)]; exact emo)
            rw [c10, nI_add]
            rintro S16 e16
            have q5 : S4.2 14 t π.length = S5.2 14 t π.length := by rw [r5]
            have hqt : S4.2 14 t π.length / 24 = t := b4.1.ref.1 _ hlt
            have b16 := zB.dueN (d0 := 0) (S' := S16) b5 hj24 q5 (show mo + tt ≤ 10107 by omega) e16
            have k16 : KP t S5 S16 := by rw [e16]; exact KP.rfl.i (by unfold ow; omega)
            have ew : w 3 + nI tt = nI (mo + tt) := by rw [emo, nI_add]
            refine h1 _ y4 (by rw [e0, bnd_s e1, bnd_s e2, bnd_s e3, bnd_s e4]) hy4 S16 ((nn.tr n4).k.tr ((k5.k r5).tr (k16.k (by rw [e16]; rfl)))) ⟨π ++ [j], ns, np, cm + 1, nl, by rw [ew]; exact b16, by rw [List.length_append, List.length_singleton]; omega⟩ ((r4.k k5).k k16)
          refine x_word hT (by omega) r3 hy3 hL (fun q S4 n4 r4 => ⟨fun z => absurd z (by decide), fun _ => ?_⟩) (fun q => ⟨fun _ => ?_, fun z => absurd rfl z⟩)
          · refine x_pnum (lo := 0) (hi := 99) hT (by omega) (by omega) r4 (el_bl_le hL hy3) hL (fun tt y4 e4 _ t9 hy4 S5 n5 r5 => ?_) (fun y4 e4 hy4 S5 n5 r5 => ?_)
            · exact good tt y4 S5 t9 (by unfold pin; rw [if_pos q]; exact e4) hy4 (n4.tr n5) r5
            · exact l50 _ _ _ _ S5 y4 y4 (nn.tr (n4.tr n5)) hy4 hy4 r5 (by rw [e0, bnd_s e1, bnd_s e2, bnd_s e3]; exact bnd_n (by unfold pin; rw [if_pos q]; exact e4))
          · exact good 0 (bl T L y3) S3 (by omega) (by unfold pin; rw [if_neg (by rw [q]; decide)]) (bl_ok (T := T) hL hy3).2.1 NC.rfl (by rw [bl_bl hL hy3]; exact r3)
        · exact l4 _ _ _ S3 y3 y3 (n1.tr (n2.tr n3)) hy3 hy3 r3 (by rw [e0, bnd_s e1, bnd_s e2]; exact bnd_n e3)
      · exact x_behw (lo := 1) (hi := 9) hT r2 hy2 hy2 hL (l4 _ _ _ S2 y2 y2 (n1.tr n2) hy2 hy2 r2 (by rw [e0, bnd_s e1]; exact bnd_n e2))
    · exact x_behw (lo := 0) (hi := 9) hT r1 hy1 hy1 hL (x_behw (lo := 1) (hi := 9) hT r1 hy1 hy1 hL (l4 _ _ _ S1 y1 y1 n1 hy1 hy1 r1 (by rw [e0]; exact bnd_n e1)))
theorem x_ses (hT : byt T) (hb : zB S t w π ns np cm nl) (hB : cm + 24 ≤ B + π.length) (h : RC S T L (bl T L x) (-1)) (hx : x ≤ L) (hL : L ≤ 400) (hlt : ns < 4) {k : sSt → Prop} (h1 : ∀ w' y, pses T L w x b = (some w', y) → y ≤ L → ∀ S', KT t S S' → zY S' t w' B → RC S' T L (bl T L y) (-1) → k S') (h0 : ∀ y, pses T L w x b = (none, y) → y ≤ L → ∀ S' p, KT t S S' → p ≤ L → RC S' T L p (nI y) → k S') : F_X7_readSession t S k := by
  have hn := hb.2.2.1.hns
  have e0 : pses T L w x b = bnd (pske T L x) (fun v y => (some (wse w ns v), y)) := by
    unfold pses
    rw [if_neg (fun q => by rw [hn.2, show (4 : Int32) = nI 4 from rfl, nI_eq (by omega) (by omega)] at q; omega), hn.2, nI_clamp (by omega)]
  rw [e0] at h1 h0
  have lost : ∀ (v : Int32) (S' : sSt) (p y : Nat), NC S S' → p ≤ L → y ≤ L → RC S' T L p (nI y) → pske T L x = (none, y) → B_X7_readSession_40 t v S' k := fun v S' p y n' hp hy r' e => by
    rw [B_X7_readSession_40]
    exact x_isRight (fun z => absurd z (r'.ne hy hL)) (fun _ => ⟨fun _ => h0 y (bnd_n e) hy S' p n'.k hp r', fun z => absurd rfl z⟩)
  have good : ∀ (v : Int32) (y : Nat) (S' : sSt), pske T L x = (some v, y) → y ≤ L → NC S S' → RC S' T L (bl T L y) (-1) → B_X7_readSession_40 t v S' k := by
    intro v y S' e hy n' r'
    have b' := hb.nc n'
    rw [B_X7_readSession_40]
    refine x_isRight (fun _ => ⟨fun z => absurd z (by decide), fun _ => ?_⟩) (fun z => absurd r'.2.2.1 z)
    exact x_addSession b' hlt (fun S5 b5 k5 r5 => h1 _ y (bnd_s e) hy S5 (n'.k.tr (k5.k r5)) ⟨π, ns + 1, np, cm, nl, b5, hB⟩ (r'.k k5))
  rw [F_X7_readSession]
  refine x_word hT (by omega) h hx hL (fun q S1 n1 r1 => ⟨fun z => absurd z (by decide), fun _ => ?_⟩) (fun q => ⟨fun _ => ?_, fun z => absurd rfl z⟩)
  · have em : pske T L x = bnd (pnum T L 0 9 (el T L (bl T L x))) (fun v y => (some (nI v), y)) := by unfold pske; rw [if_pos q]
    refine x_pnum (lo := 0) (hi := 9) hT (by omega) (by omega) r1 (el_bl_le hL hx) hL (fun v y e _ v9 hy S2 n2 r2 => good _ y S2 (by rw [em]; exact bnd_s e) hy (n1.tr n2) r2) (fun y e hy S2 n2 r2 => lost _ S2 y y (n1.tr n2) hy hy r2 (by rw [em]; exact bnd_n e))
  · refine x_word hT (by omega) h hx hL (fun q2 S1 n1 r1 => ⟨fun z => absurd z (by decide), fun _ => ?_⟩) (fun q2 => ⟨fun _ => ?_, fun z => absurd rfl z⟩)
    · have em : pske T L x = bnd (pnum T L 0 9 (el T L (bl T L x))) (fun v y => (some (-nI v), y)) := by unfold pske; rw [if_neg (by rw [q]; decide), if_pos q2]
      refine x_pnum (lo := 0) (hi := 9) hT (by omega) (by omega) r1 (el_bl_le hL hx) hL (fun v y e _ v9 hy S2 n2 r2 => ?_) (fun y e hy S2 n2 r2 => ?_)
      · rintro x14 rfl
        exact good _ y S2 (by rw [em]; exact bnd_s e) hy (n1.tr n2) r2
      · rintro x14 rfl
        exact lost _ S2 y y (n1.tr n2) hy hy r2 (by rw [em]; exact bnd_n e)
    · exact good 0 (bl T L x) S (by unfold pske; rw [if_neg (by rw [q]; decide), if_neg (by rw [q2]; decide)]) (bl_ok (T := T) hL hx).2.1 NC.rfl (by rw [bl_bl hL hx]; exact h)
theorem x_par (hT : byt T) (hb : zB S t w π ns np cm nl) (hB : cm + 24 ≤ B + π.length) (h : RC S T L (bl T L x) (-1)) (hx : x ≤ L) (hL : L ≤ 400) {k : sSt → Prop} (h1 : ∀ w' y, ppa T L w x = (some w', y) → y ≤ L → ∀ S', KT t S S' → zY S' t w' B → RC S' T L (bl T L y) (-1) → k S') (h0 : ∀ y, ppa T L w x = (none, y) → y ≤ L → ∀ S' p, KT t S S' → p ≤ L → RC S' T L p (nI y) → k S') : F_X7_readParallel t S k := by
  rw [F_X7_readParallel]
  have lost : ∀ (r1 r3 : Int32) (S' : sSt) (p y : Nat), NC S S' → p ≤ L → y ≤ L → RC S' T L p (nI y) → ppa T L w x = (none, y) → F_X8_isRight S' (fun r5 S6 => ((r5 = 0 → k S6) ∧ (¬ r5 = 0 → ix r1 6 (fun j9 => ∀ S10, S10 = uI S6 17 t j9 r3 → k S10)))) := fun r1 r3 S' p y n' hp hy r' e => x_isRight (fun z => absurd z (r'.ne hy hL)) (fun _ => ⟨fun _ => h0 y e hy S' p n'.k hp r', fun z => absurd rfl z⟩)
  refine x_pnum (lo := 0) (hi := 5) hT (by omega) (by omega) h hx hL (fun g y1 e1 _ g5 hy1 S1 n1 r1 => ?_) (fun y1 e1 hy1 S1 n1 r1 => ?_)
  · refine x_pnum (lo := 1) (hi := 4) hT (by omega) (by omega) r1 hy1 hL (fun v y2 e2 v1 v4 hy2 S2 n2 r2 => ?_) (fun y2 e2 hy2 S2 n2 r2 => ?_)
    · refine x_isRight (fun _ => ⟨fun z => absurd z (by decide), fun _ => ?_⟩) (fun z => absurd r2.2.2.1 z)
      rw [ix_n (by omega) (by omega)]
      rintro S10 rfl
      have b2 := hb.nc (n1.tr n2)
      have hW' := b2.2.2.1.set (f := 15 + g) (v := nI v) (by omega) (fun q => by omega) (fun q => by omega) (fun q => by omega) (fun q => by omega) (fun _ => ⟨v, v1, v4, rfl⟩)
      have b3 := b2.set (f := 15 + g) (j := g) (a := 17) (by omega) hW' (by omega)
      have kp : KP t S2 (uI S2 17 t g (nI v)) := KP.rfl.i (by unfold ow; omega)
      exact h1 _ y2 (by unfold ppa; rw [bnd_s e1]; exact bnd_s e2) hy2 _ ((n1.tr n2).k.tr (kp.k rfl)) ⟨π, ns, np, cm, nl, b3, hB⟩ (r2.k kp)
    · exact lost _ _ S2 y2 y2 (n1.tr n2) hy2 hy2 r2 (by unfold ppa; rw [bnd_s e1]; exact bnd_n e2)
  · exact x_number0 (lo := 1) (hi := 4) hT r1 (ni_m1 (by omega)) hy1 hL (lost _ _ S1 y1 y1 n1 hy1 hy1 r1 (by unfold ppa; exact bnd_n e1))
/-- one setting -/
theorem x_set1 (hT : byt T) (hb : zB S t w π ns np cm nl) (hB : cm + 24 ≤ B + π.length) (h : RC S T L (bl T L x) (-1)) (hx : x ≤ L) (hL : L ≤ 400) (hf : 9 ≤ f ∧ f ≤ 13) (hhi : hi ≤ 999) (hlo : lo ≤ 999) (hok : ∀ v, lo ≤ v → v ≤ hi → WF (va_up w f (nI v)) ns np cm nl) {k : sSt → Prop} (h1 : ∀ w' y, pst T L w f lo hi x = (some w', y) → y ≤ L → ∀ S', KT t S S' → zY S' t w' B → RC S' T L (bl T L y) (-1) → k S') (h0 : ∀ y, pst T L w f lo hi x = (none, y) → y ≤ L → ∀ S' p, KT t S S' → p ≤ L → RC S' T L p (nI y) → k S') : F_X8_number (nI lo) (nI hi) S (fun r S2 => ∀ S3, S3 = uI S2 18 t (f - 9) r → k S3) := by
  refine x_pnum hT hhi hlo h hx hL (fun v y e v1 v2 hy S2 n2 r2 => ?_) (fun y e hy S2 n2 r2 => ?_)
  · rintro S3 rfl
    have b2 := hb.nc n2
    have b3 := b2.set (f := f) (j := f - 9) (a := 18) (by omega) (hok v v1 v2) (by omega)
    have kp : KP t S2 (uI S2 18 t (f - 9) (nI v)) := KP.rfl.i (by unfold ow; omega)
    exact h1 _ y (by unfold pst; exact bnd_s e) hy _ (n2.k.tr (kp.k rfl)) ⟨π, ns, np, cm, nl, b3, hB⟩ (r2.k kp)
  · rintro S3 rfl
    have kp : KP t S2 (uI S2 18 t (f - 9) (-1)) := KP.rfl.i (by unfold ow; omega)
    exact h0 y (by unfold pst; exact bnd_n e) hy _ y (n2.k.tr (kp.k rfl)) hy (r2.k kp)
end TX
end PU75
