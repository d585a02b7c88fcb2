section PU74
/-! CALL table: the model reads schedules, settings, lines -/
section TM
variable {S S' S1 : sSt} {T : Nat → Int32} {L x y b f lo hi : Nat} {w : Wd} {ns np cm nl : Nat} {π : List Nat}
theorem m_pl151 {p e a g pr c m q : Nat} (hp : p < 4) (hw : w 1 = nI p) (he : 1 ≤ e ∧ e ≤ 60) (hq : q < 2147483648) {k : Int32 → sSt → Prop} (hk : k 1 (sw S (wpn w p e a g pr c m q))) : B_X12_readPlan_151 (nI p) (nI e) (nI a) (nI g) (nI pr) (nI c) (nI m) (nI q) (sw S w) k := by
  rw [B_X12_readPlan_151]
  refine ⟨fun _ => ?_, fun z => absurd (show (0 : Int32) ≤ nI q from nI_pos' hq) z⟩
  rw [m_planAt0, ix_n (by omega) (by omega)]
  rintro A1 rfl
  rw [sw_i, m_planAt1, ix_n (by omega) (by omega)]
  rintro A2 rfl
  rw [sw_i, m_planAt2, ix_n (by omega) (by omega)]
  rintro A3 rfl
  rw [sw_i, m_planAt3, ix_n (by omega) (by omega)]
  rintro A4 rfl
  rw [sw_i, m_planAt4, ix_n (by omega) (by omega)]
  rintro A5 rfl
  rw [sw_i, m_planAt5, ix_n (by omega) (by omega)]
  rintro A6 rfl
  rw [sw_i, m_planAt6, ix_n (by omega) (by omega)]
  rintro A7 rfl
  rw [sw_i, m_planAt7]
  obtain ⟨U, hU⟩ : ∃ U, U = va_up (va_up (va_up (va_up (va_up (va_up (va_up w (1257 + 8 * p) (nI e)) (1257 + 8 * p + 1) (nI a)) (1257 + 8 * p + 2) (nI g)) (1257 + 8 * p + 3) (nI pr)) (1257 + 8 * p + 4) (nI c)) (1257 + 8 * p + 5) (nI m)) (1257 + 8 * p + 6) (nI q) := ⟨_, rfl⟩
  rw [← hU]
  have uo : ∀ z, (z < 1257 + 8 * p ∨ 1257 + 8 * p + 7 ≤ z) → U z = w z := fun z hz => by rw [hU, up_ne (by omega), up_ne (by omega), up_ne (by omega), up_ne (by omega), up_ne (by omega), up_ne (by omega), up_ne (by omega)]
  have ui : ∀ f, f < 7 → U (1257 + 8 * p + f) = pvl e a g pr c m q (slq w e a) f := fun f hf => by
    rw [hU]
    rcases (show f = 0 ∨ f = 1 ∨ f = 2 ∨ f = 3 ∨ f = 4 ∨ f = 5 ∨ f = 6 by omega) with rfl | rfl | rfl | rfl | rfl | rfl | rfl
    · rw [up_ne (by omega), up_ne (by omega), up_ne (by omega), up_ne (by omega), up_ne (by omega), up_ne (by omega), Nat.add_zero, up_eq]; rfl
    · rw [up_ne (by omega), up_ne (by omega), up_ne (by omega), up_ne (by omega), up_ne (by omega), up_eq]; rfl
    · rw [up_ne (by omega), up_ne (by omega), up_ne (by omega), up_ne (by omega), up_eq]; rfl
    · rw [up_ne (by omega), up_ne (by omega), up_ne (by omega), up_eq]; rfl
    · rw [up_ne (by omega), up_ne (by omega), up_eq]; rfl
    · rw [up_ne (by omega), up_eq]; rfl
    · rw [up_eq]; rfl
  have u0 : U (1257 + 8 * p) = nI e := ui 0 (by omega)
  have u1 : U (1257 + 8 * p + 1) = nI a := ui 1 (by omega)
  have fin : ∀ sl, sl = slq w e a → ix (nI (1257 + 8 * p + 7)) 10421 (fun j58 => ∀ S59, S59 = uI (sw S U) 1 0 j58 sl → ∀ S60, S60 = uI S59 1 0 1 ((S59.1 1 0 1) + 1) → k 1 S60) := by
    intro sl hs
    rw [ix_n (by omega) (by omega)]
    rintro S59 rfl
    rw [sw_i]
    rintro S60 rfl
    rw [sw_i, sw_w]
    have e1 : va_up U (1257 + 8 * p + 7) sl 1 + 1 = nI (p + 1) := by rw [up_ne (by omega), uo 1 (by omega), hw, nI_1]
    rw [e1]
    have eW : va_up (va_up U (1257 + 8 * p + 7) sl) 1 (nI (p + 1)) = wpn w p e a g pr c m q := by
      funext z
      unfold wpn
      by_cases c1 : z = 1
      · rw [c1, up_eq, if_pos rfl]
      · rw [up_ne c1, if_neg c1]
        by_cases c7 : z = 1257 + 8 * p + 7
        · rw [c7, up_eq, if_pos (by omega), show 1257 + 8 * p + 7 - (1257 + 8 * p) = 7 from by omega, hs]; rfl
        · rw [up_ne c7]
          by_cases d : 1257 + 8 * p ≤ z ∧ z < 1265 + 8 * p
          · rw [if_pos d]
            have := ui (z - (1257 + 8 * p)) (by omega)
            rw [show 1257 + 8 * p + (z - (1257 + 8 * p)) = z from by omega] at this
            exact this
          · rw [if_neg d]; exact uo z (by omega)
    rw [eW]
    exact hk
  rw [F_X12_slotNow, m_planAt1, ix_n (by omega) (by omega), forall_eq, sw_w, uo 4 (by omega), u1]
  have eq0 : slq w e a = if 0 ≤ w 4 - nI a then (w 4 - nI a) / nI e else -1 := rfl
  refine ⟨fun c => ?_, fun c => fin _ (by rw [eq0, if_neg c])⟩
  rw [m_planAt0, ix_n (by omega) (by omega), sw_w, u0]
  exact ⟨nI_ne0 (by omega) (by omega), fin _ (by rw [eq0, if_pos c])⟩
theorem m_plan (hW : WF w ns np cm nl) (h : RM S T L x) (hb : S.1 0 0 12 = nI b) (hw : S.1 1 0 = w) (hx : x ≤ L) (hL : L ≤ 400) {k : Int32 → sSt → Prop} (h1 : ∀ w' y, ppl T L w x b = (some w', y) → y ≤ L → ∀ S', NW S S' → RM S' T L y → S'.1 1 0 = w' → k 1 S') (h0 : ∀ y, ppl T L w x b = (none, y) → ∀ S', NW S S' → S'.1 0 0 12 = nI y → S'.1 1 0 = w → k 0 S') : F_X12_readPlan S k := by
  have hn := hW.hnp
  rw [F_X12_readPlan, hw, hn.2]
  rintro x1 rfl
  rw [show (4 : Int32) = nI 4 from rfl, nI_eq (by omega) (by omega)]
  by_cases c : np = 4
  · refine ⟨fun q => absurd c q, fun _ => h0 b ?_ S NW.rfl hb hw⟩
    unfold ppl; rw [if_pos (by rw [hn.2, c]; rfl)]
  · have hs : np < 4 := by omega
    have e0 : ppl T L w x b = bnd (pnum T L 1 60 x) (fun e x1 => bnd (pbeh T L 9 0 59 x1) (fun a x2 => bnd (pbeh T L 1 0 5 x2) (fun g x3 => bnd (pbeh T L 2 0 9 x3) (fun p x4 => bnd (pbeh T L 3 1 9 x4) (fun c x5 => bnd (pmod T L x5) (fun mx x6 => (some (wpn w np e a g p c mx.1 mx.2), x6))))))) := by
      unfold ppl
      rw [if_neg (fun q => c (by rw [hn.2, show (4 : Int32) = nI 4 from rfl, nI_eq (by omega) (by omega)] at q; exact q)), hn.2, nI_clamp (by omega)]
    obtain ⟨P, hP⟩ : ∃ P, P = ppl T L w x b := ⟨_, rfl⟩
    rw [← hP] at h1 h0 e0
    refine ⟨fun _ => ?_, fun q => absurd q c⟩
    have lost : ∀ (S' : sSt) (y : Nat), NM S S' → S'.1 0 0 12 = nI y → P = (none, y) → k 0 S' := fun S' y n' e12 e => h0 y e S' n'.nw e12 (by rw [n'.1 1 0 (by omega)]; exact hw)
    have f96 : ∀ (a1 a2 a3 a4 a5 : Int32) (S' : sSt) (y : Nat), NM S S' → S'.1 0 0 12 = nI y → P = (none, y) → B_X12_readPlan_96 a1 a2 a3 a4 a5 (-1) S' k := fun a1 a2 a3 a4 a5 S' y n' e12 e => by
      rw [B_X12_readPlan_96]
      exact ⟨fun z => absurd z (by decide), fun _ => lost S' y n' e12 e⟩
    have f76 : ∀ (a1 a2 a3 a4 : Int32) (S' : sSt) (y : Nat), NM S S' → S'.1 0 0 12 = nI y → P = (none, y) → B_X12_readPlan_76 a1 a2 a3 a4 (-1) S' k := fun a1 a2 a3 a4 S' y n' e12 e => by
      rw [B_X12_readPlan_76]
      exact ⟨fun z => absurd z (by decide), fun _ => f96 _ _ _ _ _ S' y n' e12 e⟩
    have f56 : ∀ (a1 a2 a3 : Int32) (S' : sSt) (y : Nat), NM S S' → S'.1 0 0 12 = nI y → P = (none, y) → B_X12_readPlan_56 a1 a2 a3 (-1) S' k := fun a1 a2 a3 S' y n' e12 e => by
      rw [B_X12_readPlan_56]
      exact ⟨fun z => absurd z (by decide), fun _ => f76 _ _ _ _ S' y n' e12 e⟩
    have f39 : ∀ (a1 a2 : Int32) (S' : sSt) (y : Nat), NM S S' → S'.1 0 0 12 = nI y → P = (none, y) → B_X12_readPlan_39 a1 a2 (-1) S' k := fun a1 a2 S' y n' e12 e => by
      rw [B_X12_readPlan_39]
      exact ⟨fun z => absurd z (by decide), fun _ => f56 _ _ _ S' y n' e12 e⟩
    refine m_num (lo := 1) (hi := 60) (by omega) (by omega) h hx hL (fun e y1 e1 l1 l60 hy1 S1 n1 r1 => ⟨fun _ => ?_, fun z => absurd (nI_pos' (by omega)) z⟩) (fun y1 e1 S1 n1 b1 => ⟨fun z => absurd z (by decide), fun _ => f39 _ _ S1 y1 n1 b1 (by rw [e0]; exact bnd_n e1)⟩)
    refine m_beh (lo := 0) (hi := 59) (by omega) (by omega) (by omega) r1 hy1 hL (fun a y2 e2 _ a59 hy2 S2 n2 r2 => ?_) (fun y2 e2 S2 n2 b2 => f39 _ _ S2 y2 (n1.tr n2) b2 (by rw [e0, bnd_s e1]; exact bnd_n e2))
    rw [B_X12_readPlan_39]
    refine ⟨fun _ => ?_, fun z => absurd (nI_pos' (by omega)) z⟩
    refine m_beh (lo := 0) (hi := 5) (by omega) (by omega) (by omega) r2 hy2 hL (fun g y3 e3 _ g5 hy3 S3 n3 r3 => ?_) (fun y3 e3 S3 n3 b3 => f56 _ _ _ S3 y3 (n1.tr (n2.tr n3)) b3 (by rw [e0, bnd_s e1, bnd_s e2]; exact bnd_n e3))
    rw [B_X12_readPlan_56]
    refine ⟨fun _ => ?_, fun z => absurd (nI_pos' (by omega)) z⟩
    refine m_beh (lo := 0) (hi := 9) (by omega) (by omega) (by omega) r3 hy3 hL (fun p y4 e4 _ p9 hy4 S4 n4 r4 => ?_) (fun y4 e4 S4 n4 b4 => f76 _ _ _ _ S4 y4 (n1.tr (n2.tr (n3.tr n4))) b4 (by rw [e0, bnd_s e1, bnd_s e2, bnd_s e3]; exact bnd_n e4))
    rw [B_X12_readPlan_76]
    refine ⟨fun _ => ?_, fun z => absurd (nI_pos' (by omega)) z⟩
    refine m_beh (lo := 1) (hi := 9) (by omega) (by omega) (by omega) r4 hy4 hL (fun cc y5 e5 c1 c9 hy5 S5 n5 r5 => ?_) (fun y5 e5 S5 n5 b5 => f96 _ _ _ _ _ S5 y5 (n1.tr (n2.tr (n3.tr (n4.tr n5)))) b5 (by rw [e0, bnd_s e1, bnd_s e2, bnd_s e3, bnd_s e4]; exact bnd_n e5))
    rw [B_X12_readPlan_96]
    refine ⟨fun _ => ?_, fun z => absurd (nI_pos' (by omega)) z⟩
    have nn := n1.tr (n2.tr (n3.tr (n4.tr n5)))
    have good : ∀ (m q y6 : Nat) (S6 : sSt), q < 2147483648 → pmod T L y5 = (some (m, q), y6) → y6 ≤ L → NM S5 S6 → RM S6 T L y6 → B_X12_readPlan_151 (nI np) (nI e) (nI a) (nI g) (nI p) (nI cc) (nI m) (nI q) S6 k := by
      intro m q y6 S6 hq6 e6 hy6 n6 r6
      have w6 : S6.1 1 0 = w := by rw [n6.1 1 0 (by omega), nn.1 1 0 (by omega)]; exact hw
      rw [sw_of w6]
      refine m_pl151 hs hn.2 ⟨l1, l60⟩ hq6 ?_
      exact h1 _ y6 (by rw [e0, bnd_s e1, bnd_s e2, bnd_s e3, bnd_s e4, bnd_s e5, bnd_s e6]) hy6 _ ((nn.tr n6).nw.tr NW.sw) r6.sw sw_w
    have bb := bl_bl (T := T) hL hy5
    refine m_pass (by omega) r5 hy5 hL (fun q S6 n6 r6 => ⟨fun z => absurd z (by decide), fun _ => ?_⟩) (fun q S6 n6 r6 => ⟨fun _ => ?_, fun z => absurd rfl z⟩)
    · rw [B_X12_readPlan_132]
      exact ⟨fun _ => good 1 0 _ S6 (by omega) (by unfold pmod; rw [if_pos q]) (el_bl_le hL hy5) n6 r6, fun z => absurd z (by decide)⟩
    · refine m_pass (by omega) r6 (bl_ok (T := T) hL hy5).2.1 hL (fun q2 S7 n7 r7 => ⟨fun z => absurd z (by decide), fun _ => ?_⟩) (fun q2 S7 n7 r7 => ⟨fun _ => ?_, fun z => absurd rfl z⟩)
      · have q2' : wrd T L 11 y5 = true := by unfold wrd at q2 ⊢; rw [bb] at q2; exact q2
        rw [bb] at r7
        rw [B_X12_readPlan_132]
        refine ⟨fun z => absurd rfl z, fun _ => ?_⟩
        have em : pmod T L y5 = bnd (pnum T L 0 9 (el T L (bl T L y5))) (fun v y => (some (2, v), y)) := by unfold pmod; rw [if_neg (by rw [q]; decide), if_pos q2']
        refine m_num (lo := 0) (hi := 9) (by omega) (by omega) r7 (el_bl_le hL hy5) hL (fun v y6 e6 _ v9 hy6 S8 n8 r8 => ?_) (fun y6 e6 S8 n8 b8 => ?_)
        · exact good 2 v y6 S8 (by omega) (by rw [em]; exact bnd_s e6) hy6 (n6.tr (n7.tr n8)) r8
        · rw [B_X12_readPlan_151]
          refine ⟨fun z => absurd z (by decide), fun _ => lost S8 y6 (nn.tr (n6.tr (n7.tr n8))) b8 ?_⟩
          rw [e0, bnd_s e1, bnd_s e2, bnd_s e3, bnd_s e4, bnd_s e5]
          exact bnd_n (by rw [em]; exact bnd_n e6)
      · have q2' : wrd T L 11 y5 = false := by unfold wrd at q2 ⊢; rw [bb] at q2; exact q2
        rw [bb] at r7
        rw [B_X12_readPlan_132]
        exact ⟨fun _ => good 0 0 _ S7 (by omega) (by unfold pmod; rw [if_neg (by rw [q]; decide), if_neg (by rw [q2']; decide)]) (bl_ok (T := T) hL hy5).2.1 (n6.tr n7) r7, fun z => absurd z (by decide)⟩
theorem m_par (h : RM S T L x) (hw : S.1 1 0 = w) (hx : x ≤ L) (hL : L ≤ 400) {k : Int32 → sSt → Prop} (h1 : ∀ w' y, ppa T L w x = (some w', y) → y ≤ L → ∀ S', NW S S' → RM S' T L y → S'.1 1 0 = w' → k 1 S') (h0 : ∀ y, ppa T L w x = (none, y) → ∀ S', NW S S' → S'.1 0 0 12 = nI y → S'.1 1 0 = w → k 0 S') : F_X12_readParallel S k := by
  rw [F_X12_readParallel]
  refine m_num (lo := 0) (hi := 5) (by omega) (by omega) h hx hL (fun g y1 e1 _ g5 hy1 S1 n1 r1 => ⟨fun z => absurd z (nI_pos (by omega)), fun _ => ?_⟩) (fun y1 e1 S1 n1 b1 => ⟨fun _ => ?_, fun z => absurd (by decide) z⟩)
  · have w1 : S1.1 1 0 = w := by rw [n1.1 1 0 (by omega)]; exact hw
    rw [show (15 + nI g : Int32) = nI (15 + g) from nI_add 15 g]
    refine m_rnum (lo := 1) (hi := 4) (by omega) (by omega) (by omega) r1 w1 hy1 hL (fun v y2 e2 hy2 S2 n2 r2 w2 => ⟨fun z => absurd z (by decide), fun _ => ?_⟩) (fun y2 e2 S2 n2 b2 w2 => ⟨fun _ => ?_, fun z => absurd rfl z⟩)
    · exact h1 _ y2 (by unfold ppa; rw [bnd_s e1]; exact bnd_s e2) hy2 S2 (n1.nw.tr n2) r2 w2
    · exact h0 y2 (by unfold ppa; rw [bnd_s e1]; exact bnd_n e2) S2 (n1.nw.tr n2) b2 w2
  · exact h0 y1 (by unfold ppa; exact bnd_n e1) S1 n1.nw b1 (by rw [n1.1 1 0 (by omega)]; exact hw)
theorem m_line (hO : zOrd w π) (hW : WF w ns np cm nl) (h : RM S T L (el T L (bl T L x))) (hb : S.1 0 0 12 = nI (bl T L x)) (hw : S.1 1 0 = w) (hx : x ≤ L) (hL : L ≤ 400) {k : Int32 → sSt → Prop} (h1 : ∀ w' y, pln T L w x = (some w', y) → y ≤ L → ∀ S', NW S S' → RM S' T L y → S'.1 1 0 = w' → k 1 S') (h0 : ∀ y, pln T L w x = (none, y) → ∀ S', NW S S' → S'.1 0 0 12 = nI y → S'.1 1 0 = w → k 0 S') : F_X12_readTableLine S k := by
  have b2 := (bl_ok (T := T) hL hx).2.1
  obtain ⟨c1, c2, -, -⟩ := el_ok (T := T) hL b2
  have W : ∀ i, i < 29 → ∀ {kk : Int32 → sSt → Prop}, (F_X12_isWord i S kk ↔ kk (b2i (wrd T L i x)) S) := fun i hi kk => m_isWord hi h hb c1 c2 hL
  rw [F_X12_readTableLine, W 0 (by omega)]
  cases q0 : wrd T L 0 x
  rotate_left
  · have e : pln T L w x = pjob T L w (el T L (bl T L x)) (bl T L x) := by unfold pln; rw [if_pos q0]
    rw [e] at h1 h0
    refine ⟨fun z => absurd z (by decide), fun _ => m_job hO h hb hw c2 hL (fun w' y e' hy S' n' r' w'' => bz_1.mpr (h1 w' y e' hy S' n' r' w'')) (fun y e' S' n' b' w'' => bz_0.mpr (h0 y e' S' n' b' w''))⟩
  refine ⟨fun _ => ?_, fun z => absurd rfl z⟩
  rw [W 5 (by omega)]
  cases q5 : wrd T L 5 x
  rotate_left
  · have e : pln T L w x = pses T L w (el T L (bl T L x)) (bl T L x) := by unfold pln; rw [if_neg (by rw [q0]; decide), if_pos q5]
    rw [e] at h1 h0
    refine ⟨fun z => absurd z (by decide), fun _ => m_ses hW h hb hw c2 hL (fun w' y e' hy S' n' r' w'' => bz_1.mpr (h1 w' y e' hy S' n' r' w'')) (fun y e' S' n' b' w'' => bz_0.mpr (h0 y e' S' n' b' w''))⟩
  refine ⟨fun _ => ?_, fun z => absurd rfl z⟩
  rw [W 12 (by omega)]
  cases q12 : wrd T L 12 x
  rotate_left
  · have e : pln T L w x = ppa T L w (el T L (bl T L x)) := by unfold pln; rw [if_neg (by rw [q0]; decide), if_neg (by rw [q5]; decide), if_pos q12]
    rw [e] at h1 h0
    refine ⟨fun z => absurd z (by decide), fun _ => m_par h hw c2 hL (fun w' y e' hy S' n' r' w'' => bz_1.mpr (h1 w' y e' hy S' n' r' w'')) (fun y e' S' n' b' w'' => bz_0.mpr (h0 y e' S' n' b' w''))⟩
  refine ⟨fun _ => ?_, fun z => absurd rfl z⟩
  rw [W 8 (by omega)]
  cases q8 : wrd T L 8 x
  rotate_left
  · have e : pln T L w x = ppl T L w (el T L (bl T L x)) (bl T L x) := by unfold pln; rw [if_neg (by rw [q0]; decide), if_neg (by rw [q5]; decide), if_neg (by rw [q12]; decide), if_pos q8]
    rw [e] at h1 h0
    refine ⟨fun z => absurd z (by decide), fun _ => m_plan hW h hb hw c2 hL (fun w' y e' hy S' n' r' w'' => bz_1.mpr (h1 w' y e' hy S' n' r' w'')) (fun y e' S' n' b' w'' => bz_0.mpr (h0 y e' S' n' b' w''))⟩
  refine ⟨fun _ => ?_, fun z => absurd rfl z⟩
  have set : ∀ (f lo hi : Nat), f < 10421 → lo ≤ 999 → hi ≤ 999 → pln T L w x = pst T L w f lo hi (el T L (bl T L x)) → ∀ (kk : Int32 → sSt → Prop), (∀ S', k 1 S' → kk 1 S') → (∀ S', k 0 S' → kk 0 S') → F_X12_readNumber (nI f) (nI lo) (nI hi) S kk := by
    intro f lo hi hf hlo hhi e kk k1 k0
    rw [e] at h1 h0
    exact m_rnum hhi hlo hf h hw c2 hL (fun v y e' hy S' n' r' w'' => k1 S' (h1 _ y (by unfold pst; exact bnd_s e') hy S' n' r' w'')) (fun y e' S' n' b' w'' => k0 S' (h0 y (by unfold pst; exact bnd_n e') S' n' b' w''))
  have e4 : ∀ Q : Option Wd × Nat, (if wrd T L 13 x = true then pst T L w 9 1 60 (el T L (bl T L x)) else if wrd T L 14 x = true then pst T L w 10 1 9 (el T L (bl T L x)) else if wrd T L 15 x = true then pst T L w 11 1 99 (el T L (bl T L x)) else if wrd T L 16 x = true then pst T L w 12 0 9 (el T L (bl T L x)) else if wrd T L 17 x = true then pst T L w 13 1 9 (el T L (bl T L x)) else (none, bl T L x)) = Q → pln T L w x = Q := fun Q e => by
    unfold pln
    rw [if_neg (by rw [q0]; decide), if_neg (by rw [q5]; decide), if_neg (by rw [q12]; decide), if_neg (by rw [q8]; decide)]
    exact e
  rw [W 13 (by omega)]
  cases q13 : wrd T L 13 x
  rotate_left
  · exact ⟨fun z => absurd z (by decide), fun _ => set 9 1 60 (by omega) (by omega) (by omega) (e4 _ (by rw [if_pos q13])) _ (fun S' q => bz_1.mpr q) (fun S' q => bz_0.mpr q)⟩
  refine ⟨fun _ => ?_, fun z => absurd rfl z⟩
  rw [W 14 (by omega)]
  cases q14 : wrd T L 14 x
  rotate_left
  · exact ⟨fun z => absurd z (by decide), fun _ => set 10 1 9 (by omega) (by omega) (by omega) (e4 _ (by rw [if_neg (by rw [q13]; decide), if_pos q14])) _ (fun S' q => bz_1.mpr q) (fun S' q => bz_0.mpr q)⟩
  refine ⟨fun _ => ?_, fun z => absurd rfl z⟩
  rw [W 15 (by omega)]
  cases q15 : wrd T L 15 x
  rotate_left
  · exact ⟨fun z => absurd z (by decide), fun _ => set 11 1 99 (by omega) (by omega) (by omega) (e4 _ (by rw [if_neg (by rw [q13]; decide), if_neg (by rw [q14]; decide), if_pos q15])) _ (fun S' q => bz_1.mpr q) (fun S' q => bz_0.mpr q)⟩
  refine ⟨fun _ => ?_, fun z => absurd rfl z⟩
  rw [W 16 (by omega)]
  cases q16 : wrd T L 16 x
  rotate_left
  · exact ⟨fun z => absurd z (by decide), fun _ => set 12 0 9 (by omega) (by omega) (by omega) (e4 _ (by rw [if_neg (by rw [q13]; decide), if_neg (by rw [q14]; decide), if_neg (by rw [q15]; decide), if_pos q16])) _ (fun S' q => bz_1.mpr q) (fun S' q => bz_0.mpr q)⟩
  refine ⟨fun _ => ?_, fun z => absurd rfl z⟩
  rw [W 17 (by omega)]
  cases q17 : wrd T L 17 x
  rotate_left
  · exact ⟨fun z => absurd z (by decide), fun _ => set 13 1 9 (by omega) (by omega) (by omega) (e4 _ (by rw [if_neg (by rw [q13]; decide), if_neg (by rw [q14]; decide), if_neg (by rw [q15]; decide), if_neg (by rw [q16]; decide), if_pos q17])) _ (fun S' q => ⟨fun z => absurd z (by decide), fun _ => q⟩) (fun S' q => ⟨fun _ => q, fun z => absurd rfl z⟩)⟩
  refine ⟨fun _ => ?_, fun z => absurd rfl z⟩
  exact h0 _ (e4 _ (by rw [if_neg (by rw [q13]; decide), if_neg (by rw [q14]; decide), if_neg (by rw [q15]; decide), if_neg (by rw [q16]; decide), if_neg (by rw [q17]; decide)])) S NW.rfl hb hw
end TM
end PU74
