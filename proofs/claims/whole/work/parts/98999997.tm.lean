section PU73
/-! CALL table: what the lines say, and how the model reads them -/
def bnd {α β : Type} (o : Option α × Nat) (f : α → Nat → Option β × Nat) : Option β × Nat := match o with
  | (none, y) => (none, y)
  | (some a, y) => f a y
theorem bnd_n {α β : Type} {o : Option α × Nat} {f : α → Nat → Option β × Nat} {y : Nat} (h : o = (none, y)) : bnd o f = (none, y) := by rw [h]; rfl
theorem bnd_s {α β : Type} {o : Option α × Nat} {f : α → Nat → Option β × Nat} {a : α} {y : Nat} (h : o = (some a, y)) : bnd o f = f a y := by rw [h]; rfl
def pin (T : Nat → Int32) (L x : Nat) : Option Nat × Nat := if wrd T L 4 x = true then pnum T L 0 99 (el T L (bl T L x)) else (some 0, bl T L x)
def pjob (T : Nat → Int32) (L : Nat) (w : Wd) (x b : Nat) : Option Wd × Nat := match frs w 0 24 with
  | none => (none, b)
  | some j => bnd (pbeh T L 1 0 5 x) (fun g x1 => bnd (pbeh T L 2 0 9 x1) (fun p x2 => bnd (pbeh T L 3 1 9 x2) (fun c x3 => bnd (pin T L x3) (fun t x4 => (some (wnew w j 3 1 (nI g) (nI p) (nI c) (w 3 + nI t)), x4)))))
def pske (T : Nat → Int32) (L x : Nat) : Option Int32 × Nat := if wrd T L 6 x = true then bnd (pnum T L 0 9 (el T L (bl T L x))) (fun v y => (some (nI v), y)) else if wrd T L 7 x = true then bnd (pnum T L 0 9 (el T L (bl T L x))) (fun v y => (some (-nI v), y)) else (some 0, bl T L x)
def pses (T : Nat → Int32) (L : Nat) (w : Wd) (x b : Nat) : Option Wd × Nat := if w 0 = 4 then (none, b) else bnd (pske T L x) (fun v y => (some (wse w (w 0).toNatClampNeg v), y))
def pmod (T : Nat → Int32) (L x : Nat) : Option (Nat × Nat) × Nat := if wrd T L 10 x = true then (some (1, 0), el T L (bl T L x)) else if wrd T L 11 x = true then bnd (pnum T L 0 9 (el T L (bl T L x))) (fun v y => (some (2, v), y)) else (some (0, 0), bl T L x)
def ppl (T : Nat → Int32) (L : Nat) (w : Wd) (x b : Nat) : Option Wd × Nat := if w 1 = 4 then (none, b) else bnd (pnum T L 1 60 x) (fun e x1 => bnd (pbeh T L 9 0 59 x1) (fun a x2 => bnd (pbeh T L 1 0 5 x2) (fun g x3 => bnd (pbeh T L 2 0 9 x3) (fun p x4 => bnd (pbeh T L 3 1 9 x4) (fun c x5 => bnd (pmod T L x5) (fun mx x6 => (some (wpn w (w 1).toNatClampNeg e a g p c mx.1 mx.2), x6)))))))
def ppa (T : Nat → Int32) (L : Nat) (w : Wd) (x : Nat) : Option Wd × Nat := bnd (pnum T L 0 5 x) (fun g x1 => bnd (pnum T L 1 4 x1) (fun v x2 => (some (va_up w (15 + g) (nI v)), x2)))
def pst (T : Nat → Int32) (L : Nat) (w : Wd) (f lo hi x : Nat) : Option Wd × Nat := bnd (pnum T L lo hi x) (fun v y => (some (va_up w f (nI v)), y))
def pln (T : Nat → Int32) (L : Nat) (w : Wd) (x : Nat) : Option Wd × Nat :=
  if wrd T L 0 x = true then pjob T L w (el T L (bl T L x)) (bl T L x) else if wrd T L 5 x = true then pses T L w (el T L (bl T L x)) (bl T L x) else if wrd T L 12 x = true then ppa T L w (el T L (bl T L x)) else if wrd T L 8 x = true then ppl T L w (el T L (bl T L x)) (bl T L x) else if wrd T L 13 x = true then pst T L w 9 1 60 (el T L (bl T L x)) else if wrd T L 14 x = true then pst T L w 10 1 9 (el T L (bl T L x)) else if wrd T L 15 x = true then pst T L w 11 1 99 (el T L (bl T L x)) else if wrd T L 16 x = true then pst T L w 12 0 9 (el T L (bl T L x)) else if wrd T L 17 x = true then pst T L w 13 1 9 (el T L (bl T L x)) else (none, bl T L x)
def ptl (T : Nat → Int32) (L : Nat) : Nat → Wd → Nat → Option Wd × Nat
  | 0, _, x => (none, bl T L x)
  | r + 1, w, x => bnd (pln T L w x) (fun w' y => if isS T L (bl T L y) 59 = true then ptl T L r w' (bl T L y + 1) else if bl T L y = L then (some w', L) else (none, bl T L y))
def ptb (T : Nat → Int32) (L : Nat) (w : Wd) : Option Wd × Nat := if bl T L 0 = L then (some w, L) else ptl T L 14 w 0
/-- the model's frame: the world and where the reader stands -/
def NW (S S' : sSt) : Prop := (∀ a b, ¬ (a = 0 ∧ b = 0) → ¬ (a = 1 ∧ b = 0) → S'.1 a b = S.1 a b) ∧ ∀ f, f ≠ 10 → f ≠ 12 → S'.1 0 0 f = S.1 0 0 f
section TM
variable {S S' S1 : sSt} {T : Nat → Int32} {L x y b f lo hi : Nat} {w : Wd} {ns np cm nl : Nat} {π : List Nat}
theorem NW.rfl : NW S S := ⟨fun _ _ _ _ => Eq.refl _, fun _ _ _ => Eq.refl _⟩
theorem NW.tr (h : NW S S1) (g : NW S1 S') : NW S S' := ⟨fun a b q1 q2 => (g.1 a b q1 q2).trans (h.1 a b q1 q2), fun f q1 q2 => (g.2 f q1 q2).trans (h.2 f q1 q2)⟩
theorem NM.nw (h : NM S S') : NW S S' := ⟨fun a b q _ => h.1 a b q, h.2⟩
theorem NW.sw {w : Wd} : NW S (_root_.Jvm.Pilot.CClaimTableLaw_law_r8461_ee85a3.sw S w) := ⟨fun a b _ q2 => sw_o q2, fun f _ _ => by rw [sw_o (by omega)]⟩
theorem RM.sw {w : Wd} (h : RM S T L x) : RM (_root_.Jvm.Pilot.CClaimTableLaw_law_r8461_ee85a3.sw S w) T L x := ⟨by rw [sw_o (by omega)]; exact h.1, by rw [sw_o (by omega)]; exact h.2.1, fun z hz => by rw [sw_o (by omega)]; exact h.2.2 z hz⟩
theorem sw_of (h : S.1 1 0 = w) : S = sw S w := by rw [← h, sw_s]
theorem up_self {f : Nat} : va_up w f (w f) = w := by
  funext z
  by_cases c : z = f
  · rw [c, up_eq]
  · rw [up_ne c]
theorem m_rnum (h9 : hi ≤ 999) (hlo : lo ≤ 999) (hf : f < 10421) (h : RM S T L x) (hw : S.1 1 0 = w) (hx : x ≤ L) (hL : L ≤ 400) {k : Int32 → sSt → Prop} (h1 : ∀ v y, pnum T L lo hi x = (some v, y) → y ≤ L → ∀ S', NW S S' → RM S' T L y → S'.1 1 0 = va_up w f (nI v) → k 1 S') (h0 : ∀ y, pnum T L lo hi x = (none, y) → ∀ S', NW S S' → S'.1 0 0 12 = nI y → S'.1 1 0 = w → k 0 S') : F_X12_readNumber (nI f) (nI lo) (nI hi) S k := by
  rw [F_X12_readNumber]
  refine m_num h9 hlo h hx hL (fun v y e l1 l2 hy S2 n2 r2 => ⟨fun _ => ?_, fun z => absurd (nI_pos' (by omega)) z⟩) (fun y e S2 n2 e2 => ⟨fun z => absurd z (by decide), fun _ => ?_⟩)
  · have w2 : S2.1 1 0 = w := by rw [n2.1 1 0 (by omega)]; exact hw
    rw [B_X12_readNumber_29, ix_n hf (by omega), sw_of w2]
    rintro S5 rfl
    rw [sw_i]
    refine ⟨fun z => absurd z (nI_pos (by omega)), fun _ => h1 v y e hy _ (n2.nw.tr NW.sw) r2.sw sw_w⟩
  · have w2 : S2.1 1 0 = w := by rw [n2.1 1 0 (by omega)]; exact hw
    rw [ix_n hf (by omega), B_X12_readNumber_29, ix_n hf (by omega), sw_of w2, sw_w]
    rintro S5 rfl
    rw [sw_i, up_self]
    refine ⟨fun _ => h0 y e _ (n2.nw.tr NW.sw) ?_ sw_w, fun z => absurd (by decide) z⟩
    rw [sw_o (by omega)]; exact e2
theorem m_job (hO : zOrd w π) (h : RM S T L x) (hb : S.1 0 0 12 = nI b) (hw : S.1 1 0 = w) (hx : x ≤ L) (hL : L ≤ 400) {k : Int32 → sSt → Prop} (h1 : ∀ w' y, pjob T L w x b = (some w', y) → y ≤ L → ∀ S', NW S S' → RM S' T L y → S'.1 1 0 = w' → k 1 S') (h0 : ∀ y, pjob T L w x b = (none, y) → ∀ S', NW S S' → S'.1 0 0 12 = nI y → S'.1 1 0 = w → k 0 S') : F_X12_readJob S k := by
  have hlen := hO.len
  rw [F_X12_readJob, m_jobsLying, hw, lying_cnt hO, show (24 : Int32) = nI 24 from rfl, nI_eq (by omega) (by omega)]
  cases hf : frs w 0 24 with
  | none =>
    have e : pjob T L w x b = (none, b) := by unfold pjob; rw [hf]
    have hfull := len_full hO (fun z hz => frs_none 24 0 hf z (by omega) (by omega))
    exact ⟨fun q => absurd hfull q, fun _ => h0 b e S NW.rfl hb hw⟩
  | some j =>
    obtain ⟨-, hj, hl, hfirst⟩ := frs_some 24 0 hf
    have hlt := len_free hO (show j < 24 by omega) hl
    have e0 : pjob T L w x b = bnd (pbeh T L 1 0 5 x) (fun g x1 => bnd (pbeh T L 2 0 9 x1) (fun p x2 => bnd (pbeh T L 3 1 9 x2) (fun c x3 => bnd (pin T L x3) (fun t x4 => (some (wnew w j 3 1 (nI g) (nI p) (nI c) (w 3 + nI t)), x4))))) := by unfold pjob; rw [hf]
    rw [e0] at h1 h0
    refine ⟨fun _ => ?_, fun q => absurd q (by omega)⟩
    -- roads of failure
    have f82 : ∀ (g p c : Int32) (S' : sSt), NM S S' → ∀ y, S'.1 0 0 12 = nI y → bnd (pbeh T L 1 0 5 x) (fun g x1 => bnd (pbeh T L 2 0 9 x1) (fun p x2 => bnd (pbeh T L 3 1 9 x2) (fun c x3 => bnd (pin T L x3) (fun t x4 => (some (wnew w j 3 1 (nI g) (nI p) (nI c) (w 3 + nI t)), x4))))) = (none, y) → B_X12_readJob_82 g p c (-1) S' k := fun g p c S' n' y e12 e => by
      rw [B_X12_readJob_82]
      exact ⟨fun z => absurd z (by decide), fun _ => h0 y e S' n'.nw e12 (by rw [n'.1 1 0 (by omega)]; exact hw)⟩
    have f55 : ∀ (g p : Int32) (S' : sSt), NM S S' → ∀ y, S'.1 0 0 12 = nI y → bnd (pbeh T L 1 0 5 x) (fun g x1 => bnd (pbeh T L 2 0 9 x1) (fun p x2 => bnd (pbeh T L 3 1 9 x2) (fun c x3 => bnd (pin T L x3) (fun t x4 => (some (wnew w j 3 1 (nI g) (nI p) (nI c) (w 3 + nI t)), x4))))) = (none, y) → B_X12_readJob_55 g p (-1) S' k := fun g p S' n' y e12 e => by
      rw [B_X12_readJob_55]
      exact ⟨fun z => absurd z (by decide), fun _ => h0 y e S' n'.nw e12 (by rw [n'.1 1 0 (by omega)]; exact hw)⟩
    refine m_beh (lo := 0) (hi := 5) (by omega) (by omega) (by omega) h hx hL (fun g y1 e1 _ g5 hy1 S1 n1 r1 => ⟨fun _ => ?_, fun z => absurd (nI_pos' (by omega)) z⟩) (fun y1 e1 S1 n1 b1 => ⟨fun z => absurd z (by decide), fun _ => ?_⟩)
    · refine m_beh (lo := 0) (hi := 9) (by omega) (by omega) (by omega) r1 hy1 hL (fun p y2 e2 _ p9 hy2 S2 n2 r2 => ?_) (fun y2 e2 S2 n2 b2 => ?_)
      · rw [B_X12_readJob_37]
        refine ⟨fun _ => ?_, fun z => absurd (nI_pos' (by omega)) z⟩
        refine m_beh (lo := 1) (hi := 9) (by omega) (by omega) (by omega) r2 hy2 hL (fun c y3 e3 c1 c9 hy3 S3 n3 r3 => ?_) (fun y3 e3 S3 n3 b3 => ?_)
        · rw [B_X12_readJob_55]
          refine ⟨fun _ => ?_, fun z => absurd (nI_pos' (by omega)) z⟩
          have nn := n1.tr (n2.tr n3)
          have good : ∀ (t y4 : Nat) (S4 : sSt), pin T L y3 = (some t, y4) → y4 ≤ L → t ≤ 99 → NM S3 S4 → RM S4 T L y4 → B_X12_readJob_82 (nI g) (nI p) (nI c) (nI t) S4 k := by
            intro t y4 S4 e4 hy4 t9 n4 r4
            have w4 : S4.1 1 0 = w := by rw [n4.1 1 0 (by omega), nn.1 1 0 (by omega)]; exact hw
            rw [B_X12_readJob_82, sw_of w4, sw_w]
            refine ⟨fun _ => ?_, fun z => absurd (nI_pos' (by omega)) z⟩
            refine (m_comes (off := 3) (Or.inl rfl) (show j < 24 by omega) hl (fun z hz => hfirst z (by omega) hz)).mpr ?_
            rw [if_neg (by decide)]
            exact h1 _ y4 (by rw [bnd_s e1, bnd_s e2, bnd_s e3, bnd_s e4]) hy4 _ ((nn.tr n4).nw.tr NW.sw) r4.sw sw_w
          refine m_pass (by omega) r3 hy3 hL (fun q S4 n4 r4 => ⟨fun z => absurd z (by decide), fun _ => ?_⟩) (fun q S4 n4 r4 => ⟨fun _ => ?_, fun z => absurd rfl z⟩)
          · refine m_num (lo := 0) (hi := 99) (by omega) (by omega) r4 (el_bl_le hL hy3) hL (fun t y4 e4 _ t9 hy4 S5 n5 r5 => ?_) (fun y4 e4 S5 n5 b5 => ?_)
            · exact good t y4 S5 (by unfold pin; rw [if_pos q]; exact e4) hy4 t9 (n4.tr n5) r5
            · exact f82 _ _ _ S5 (nn.tr (n4.tr n5)) y4 b5 (by rw [bnd_s e1, bnd_s e2, bnd_s e3]; exact bnd_n (by unfold pin; rw [if_pos q]; exact e4))
          · exact good 0 (bl T L y3) S4 (by unfold pin; rw [if_neg (by rw [q]; decide)]) (bl_ok (T := T) hL hy3).2.1 (by omega) n4 r4
        · exact f55 _ _ S3 (n1.tr (n2.tr n3)) y3 b3 (by rw [bnd_s e1, bnd_s e2]; exact bnd_n e3)
      · rw [B_X12_readJob_37]
        refine ⟨fun z => absurd z (by decide), fun _ => ?_⟩
        exact f55 _ _ S2 (n1.tr n2) y2 b2 (by rw [bnd_s e1]; exact bnd_n e2)
    · rw [B_X12_readJob_37]
      refine ⟨fun z => absurd z (by decide), fun _ => ?_⟩
      exact f55 _ _ S1 n1 y1 b1 (bnd_n e1)
theorem m_ses71 {s : Nat} (hs : s < 4) (hw : w 0 = nI s) {neg v : Int32} {k : Int32 → sSt → Prop} (hk : k 1 (sw S (wse w s (if neg = 0 then v else -v)))) : B_X12_readSession_71 fuel (nI s) neg v 0 (sw S w) k := by
  suffices hh : ∀ r i m, i + r = 27 → r < m → B_X12_readSession_71 m (nI s) neg v (nI i) (sw S (fun x => if 1149 + 27 * s ≤ x ∧ x < 1149 + 27 * s + i then 0 else w x)) k by
    have := hh 27 0 fuel (by omega) (fuel_gt (by omega))
    rw [show (fun x => if 1149 + 27 * s ≤ x ∧ x < 1149 + 27 * s + 0 then (0 : Int32) else w x) = w from funext fun x => if_neg (by omega)] at this
    exact this
  intro r
  induction r with
  | zero =>
    intro i m hi hm
    obtain ⟨m, rfl⟩ : ∃ z, m = z + 1 := ⟨m - 1, by omega⟩
    have e : i = 27 := by omega
    subst e
    have fin : ∀ u, u = (if neg = 0 then v else -v) → B_X12_readSession_117 (nI s) (nI (1149 + 27 * s)) u (sw S (fun x => if 1149 + 27 * s ≤ x ∧ x < 1149 + 27 * s + 27 then 0 else w x)) k := by
      intro u hu
      rw [B_X12_readSession_117, ix_n (by omega) (by omega)]
      rintro S15 rfl
      rw [sw_i, m_sessAt1, ix_n (by omega) (by omega)]
      rintro S19 rfl
      rw [sw_i, m_sessAt4, ix_n (by omega) (by omega)]
      rintro S23 rfl
      rw [sw_i]
      rintro S24 rfl
      rw [sw_i, sw_w]
      have eW : va_up (va_up (va_up (va_up (fun x => if 1149 + 27 * s ≤ x ∧ x < 1149 + 27 * s + 27 then 0 else w x) (1149 + 27 * s) u) (1149 + 27 * s + 1) 5) (1149 + 27 * s + 4) 1) 0 (va_up (va_up (va_up (fun x => if 1149 + 27 * s ≤ x ∧ x < 1149 + 27 * s + 27 then 0 else w x) (1149 + 27 * s) u) (1149 + 27 * s + 1) 5) (1149 + 27 * s + 4) 1 0 + 1) = wse w s (if neg = 0 then v else -v) := by
        funext z
        unfold wse
        by_cases c0 : z = 0
        · rw [c0, up_eq, if_pos rfl, up_ne (by omega), up_ne (by omega), up_ne (by omega), if_neg (by omega), hw, nI_1]
        · rw [up_ne c0, if_neg c0]
          by_cases c4 : z = 1149 + 27 * s + 4
          · rw [c4, up_eq, if_pos (by omega), if_neg (by omega), if_neg (by omega), if_pos rfl]
          · rw [up_ne c4]
            by_cases c1 : z = 1149 + 27 * s + 1
            · rw [c1, up_eq, if_pos (by omega), if_neg (by omega), if_pos rfl]
            · rw [up_ne c1]
              by_cases cz : z = 1149 + 27 * s
              · rw [cz, up_eq, if_pos (by omega), if_pos rfl, hu]
              · rw [up_ne cz]
                by_cases d : 1149 + 27 * s ≤ z ∧ z < 1149 + 27 * s + 27
                · rw [if_pos d, if_pos (by omega), if_neg cz, if_neg c1, if_neg c4]
                · rw [if_neg d, if_neg (by omega)]
      rw [eW]
      exact hk
    simp only [B_X12_readSession_71_s, Bb_X12_readSession_71]
    refine ⟨fun _ => ?_, fun q => absurd (show (27 : Int32) ≤ nI 27 from by decide) q⟩
    rw [m_sessAt0]
    exact ⟨fun q => fin _ (by rw [if_pos q]), fun q => fin _ (by rw [if_neg q])⟩
  | succ r ih =>
    intro i m hi hm
    obtain ⟨m, rfl⟩ : ∃ z, m = z + 1 := ⟨m - 1, by omega⟩
    simp only [B_X12_readSession_71_s, Bb_X12_readSession_71]
    refine ⟨fun q => absurd q (nI_ge (b := 27) (show i < 27 by omega) (by omega)), fun _ => ?_⟩
    rw [m_sessAt, ix_n (by omega) (by omega)]
    rintro S28 rfl x29 rfl
    rw [sw_i, nI_1]
    have := ih (i + 1) m (by omega) (by omega)
    have e : va_up (fun x => if 1149 + 27 * s ≤ x ∧ x < 1149 + 27 * s + i then 0 else w x) (1149 + 27 * s + i) 0 = fun x => if 1149 + 27 * s ≤ x ∧ x < 1149 + 27 * s + (i + 1) then 0 else w x := by
      funext z
      by_cases c : z = 1149 + 27 * s + i
      · rw [c, up_eq, if_pos (by omega)]
      · rw [up_ne c]
        by_cases d : 1149 + 27 * s ≤ z ∧ z < 1149 + 27 * s + i
        · rw [if_pos d, if_pos (by omega)]
        · rw [if_neg d, if_neg (by omega)]
    rw [e]
    exact this
theorem m_ses (hW : WF w ns np cm nl) (h : RM S T L x) (hb : S.1 0 0 12 = nI b) (hw : S.1 1 0 = w) (hx : x ≤ L) (hL : L ≤ 400) {k : Int32 → sSt → Prop} (h1 : ∀ w' y, pses T L w x b = (some w', y) → y ≤ L → ∀ S', NW S S' → RM S' T L y → S'.1 1 0 = w' → k 1 S') (h0 : ∀ y, pses T L w x b = (none, y) → ∀ S', NW S S' → S'.1 0 0 12 = nI y → S'.1 1 0 = w → k 0 S') : F_X12_readSession S k := by
  have hn := hW.hns
  rw [F_X12_readSession, hw, hn.2]
  rintro x1 rfl
  rw [show (4 : Int32) = nI 4 from rfl, nI_eq (by omega) (by omega)]
  by_cases c : ns = 4
  · refine ⟨fun q => absurd c q, fun _ => h0 b ?_ S NW.rfl hb hw⟩
    unfold pses; rw [if_pos (by rw [hn.2, c]; rfl)]
  · have hs : ns < 4 := by omega
    have e0 : pses T L w x b = bnd (pske T L x) (fun v y => (some (wse w ns v), y)) := by
      unfold pses
      rw [if_neg (fun q => c (by rw [hn.2, show (4 : Int32) = nI 4 from rfl, nI_eq (by omega) (by omega)] at q; exact q)), hn.2, nI_clamp (by omega)]
    rw [e0] at h1 h0
    refine ⟨fun _ => ?_, fun q => absurd q c⟩
    have good : ∀ (neg v u : Int32) (y : Nat) (S4 : sSt), u = (if neg = 0 then v else -v) → pske T L x = (some u, y) → y ≤ L → NM S S4 → RM S4 T L y → B_X12_readSession_71 fuel (nI ns) neg v 0 S4 k := by
      intro neg v u y S4 hu e hy n4 r4
      have w4 : S4.1 1 0 = w := by rw [n4.1 1 0 (by omega)]; exact hw
      rw [sw_of w4]
      refine m_ses71 hs hn.2 ?_
      rw [← hu]
      exact h1 _ y (bnd_s e) hy _ (n4.nw.tr NW.sw) r4.sw sw_w
    have num : ∀ (neg : Int32) (S4 : sSt), NM S S4 → RM S4 T L (el T L (bl T L x)) → (∀ v y, pnum T L 0 9 (el T L (bl T L x)) = (some v, y) → pske T L x = (some (if neg = 0 then nI v else -nI v), y)) → (∀ y, pnum T L 0 9 (el T L (bl T L x)) = (none, y) → pske T L x = (none, y)) → B_X12_readSession_48 (nI ns) neg S4 k := by
      intro neg S4 n4 r4 g1 g0
      rw [B_X12_readSession_48]
      refine m_num (lo := 0) (hi := 9) (by omega) (by omega) r4 (el_bl_le hL hx) hL (fun v y e _ v9 hy S5 n5 r5 => ?_) (fun y e S5 n5 b5 => ?_)
      · rw [B_X12_readSession_59]
        exact ⟨fun _ => good neg (nI v) _ y S5 rfl (g1 v y e) hy (n4.tr n5) r5, fun z => absurd (nI_pos' (by omega)) z⟩
      · rw [B_X12_readSession_59]
        exact ⟨fun z => absurd z (by decide), fun _ => h0 y (bnd_n (g0 y e)) S5 (n4.tr n5).nw b5 (by rw [(n4.tr n5).1 1 0 (by omega)]; exact hw)⟩
    refine m_pass (by omega) h hx hL (fun q S3 n3 r3 => ⟨fun _ => ?_, fun z => absurd z (by decide)⟩) (fun q S3 n3 r3 => ⟨fun z => absurd rfl z, fun _ => ?_⟩)
    · rw [B_X12_readSession_38, B_X12_readSession_39]
      refine ⟨fun _ => num 0 S3 n3 r3 (fun v y e => ?_) (fun y e => ?_), fun z => absurd z (by decide)⟩
      · unfold pske; rw [if_pos q, if_pos rfl]; exact bnd_s e
      · unfold pske; rw [if_pos q]; exact bnd_n e
    · have bb := bl_bl (T := T) hL hx
      refine m_pass (by omega) r3 (bl_ok (T := T) hL hx).2.1 hL (fun q2 S4 n4 r4 => ⟨fun z => absurd z (by decide), fun _ => ?_⟩) (fun q2 S4 n4 r4 => ⟨fun _ => ?_, fun z => absurd rfl z⟩)
      · have q2' : wrd T L 7 x = true := by unfold wrd at q2 ⊢; rw [bb] at q2; exact q2
        rw [bb] at r4
        rw [B_X12_readSession_39]
        refine ⟨fun z => absurd rfl z, fun _ => ⟨fun z => absurd z (by decide), fun _ => num 1 S4 (n3.tr n4) r4 (fun v y e => ?_) (fun y e => ?_)⟩⟩
        · unfold pske; rw [if_neg (by rw [q]; decide), if_pos q2', if_neg (by decide)]; exact bnd_s e
        · unfold pske; rw [if_neg (by rw [q]; decide), if_pos q2']; exact bnd_n e
      · have q2' : wrd T L 7 x = false := by unfold wrd at q2 ⊢; rw [bb] at q2; exact q2
        rw [bb] at r4
        rw [B_X12_readSession_38, B_X12_readSession_39]
        refine ⟨fun z => absurd rfl z, fun _ => ⟨fun _ => ?_, fun z => absurd rfl z⟩⟩
        rw [B_X12_readSession_59]
        refine ⟨fun _ => good 0 0 0 (bl T L x) S4 rfl ?_ (bl_ok (T := T) hL hx).2.1 (n3.tr n4) r4, fun z => absurd (by decide) z⟩
        unfold pske; rw [if_neg (by rw [q]; decide), if_neg (by rw [q2']; decide)]
end TM
end PU73
