section PU36
/-! CALLS: undo, save -/
theorem cJ.g {S S' : sSt} {q q' v v' : Nat} (h1 : ∀ f, 7 ≤ f → S'.1 21 q' f = S.1 21 q f) (h2 : ∀ f, f < 8 → S'.1 22 v' f = S.1 22 v f) : ∀ f, cJ S' q' v' f = cJ S q v f
  | 0 => h1 7 (by omega)
  | 1 => h1 8 (by omega)
  | 2 => h1 9 (by omega)
  | 3 => h2 0 (by omega)
  | 4 => h1 10 (by omega)
  | 5 => h2 1 (by omega)
  | 6 => h2 2 (by omega)
  | 7 => h2 3 (by omega)
  | 8 => h2 5 (by omega)
  | 9 => h2 6 (by omega)
  | 10 => h2 7 (by omega)
  | 11 => h1 11 (by omega)
  | 12 => h1 12 (by omega)
  | k + 13 => by show cz (S'.1 22 v' 4) k = cz (S.1 22 v 4) k; rw [h2 4 (by omega)]
theorem b_1 (i : Nat) : bt 1 i = decide (i = 0) := by
  rcases Nat.lt_or_ge i 32 with h | h
  · exact (by decide +kernel : ∀ i, i < 32 → bt 1 i = decide (i = 0)) i h
  · rw [b_big h, decide_eq_false (by omega)]
theorem and_1 {y : Int32} : (y &&& 1 = 1) ↔ bt y 0 = true := by
  constructor
  · intro h
    have := congrArg (fun z => bt z 0) h
    simp only [b_and, b_1] at this
    simpa using this
  · intro h
    refine b_ext fun i hi => ?_
    rw [b_and, b_1]
    by_cases c : i = 0
    · rw [c, h]; rfl
    · simp [c]
theorem sv_bt {x : Int32} {k : Nat} (hk : k < 4) : ((x >>> (nI k &&& 31)) &&& 1 = 1) ↔ bt x k = true := by
  rw [and_1, b_sshr k (by omega) x (by omega), if_pos (by omega), Nat.add_zero]
theorem sv_or {x : Int32} {k k' : Nat} (hk : k < 4) (hk' : k' < 4) : (((x ||| ((1 : Int32) <<< (nI k &&& 31))) >>> (nI k' &&& 31)) &&& 1 = 1) ↔ (k = k' ∨ (x >>> (nI k' &&& 31)) &&& 1 = 1) := by
  rw [sv_bt hk', sv_bt hk', b_or, b_shl k (by omega) 1 (by omega), b_1]
  by_cases c : k = k'
  · simp [c]
  · by_cases d : k ≤ k'
    · simp [c, d, show ¬ k' - k = 0 by omega]
    · simp [c, d]
section CS
variable {Sc Sc' Sm S' S : sSt} {l sp n t : Nat} {w w' : Wd} {π π' : List Nat} {ns np cm nl ns' np' cm' nl' : Nat}
theorem x_isSavedAt {q kk : Nat} (hk : kk < 4) {k : Int32 → sSt → Prop} : F_X1_isSavedAt q (nI kk) S k ↔ k (b2i (svb S q kk)) S := by
  rw [F_X1_isSavedAt]
  have h1 : ¬ nI kk < 0 := nI_pos (by omega)
  have h2 : ¬ (4 : Int32) ≤ nI kk := nI_ge (b := 4) hk (by omega)
  unfold svb
  by_cases c : (((S.1 21 q 3) >>> (nI kk &&& 31)) &&& 1) = 1 <;> simp [h1, h2, c, b2i, -Int32.not_le, -Int32.not_lt]
/-- the number of savepoints is told anew -/
theorem zC.cnt (h : zC S t w π ns np cm nl) {s c : Nat} (hs : s < ns) (hop : w (1149 + 27 * s + 2) = 1) (hc : c ≤ 4) (hw : ∀ x, x < 1589 → x ≠ 1149 + 27 * s + 3 → w' x = w x) (hwc : w' (1149 + 27 * s + 3) = nI c) (hZ : ∀ i, i < π.length → JZ S (S.2 14 t i) w' (pl π i) ns) : zC (uI S 24 (4 * t + s) 4 (nI c)) t w' π ns np cm nl := by
  obtain ⟨hT, hO, hW⟩ := h
  have hn := hW.hns.1
  obtain ⟨S', e'⟩ : ∃ S', S' = uI S 24 (4 * t + s) 4 (nI c) := ⟨_, rfl⟩
  rw [← e']
  have o : ∀ a b, ¬ (a = 24 ∧ b = 4 * t + s) → S'.1 a b = S.1 a b := fun a b c => by rw [e', uI_other c]
  have r : S'.2 = S.2 := by rw [e']; rfl
  have f4 : ∀ f, f ≠ 4 → S'.1 24 (4 * t + s) f = S.1 24 (4 * t + s) f := fun f hf => by rw [e', uI_nc (by omega)]
  have g4 : S'.1 24 (4 * t + s) 4 = nI c := by rw [e']; exact uI_at
  refine ⟨⟨by rw [o 13 t (by omega)]; exact hT.size, by unfold zRef; rw [r]; exact hT.ref, fun i hi => ?_, hT.sca.c (fun f _ => by rw [o 13 t (by omega)]) (o 17 t (by omega)) (o 18 t (by omega)) (fun x _ _ => hw x (by omega) (by omega)), fun s' hs' => ?_, hT.pln.c hW.hnp.1 (fun p _ => o 25 _ (by omega)) (fun x _ _ => hw x (by omega) (by omega)), hT.log.c hW.hnl.1 (o 19 t (by omega)) (o 20 t (by omega)) (fun x _ _ => hw x (by omega) (by omega))⟩, hO.c (fun j _ => hw _ (by omega) (by omega)), ?_⟩
  · obtain ⟨a, b⟩ := hT.job i hi
    have hj4 := hO.at hi
    rw [r]
    refine ⟨a.c (o 21 _ (by omega)) (fun d _ => o 22 _ (by omega)) (fun x _ _ => hw x (by omega) (by omega)), fun s' k hs' hk hlk hsv => ?_⟩
    obtain ⟨b1, b2⟩ := hZ i hi s' k hs' hk hlk hsv
    refine ⟨by rw [← b1]; unfold svb; rw [o 21 _ (by omega)], fun z f hf => ?_⟩
    rw [cJ.c (o 21 _ (by omega)) (o 22 _ (by omega))]
    exact b2 (by rw [← z]; unfold svb; rw [o 21 _ (by omega)]) f hf
  · obtain ⟨a1, a2, a3, a4, a5⟩ := hT.ses s' hs'
    have a5' : QR S' (4 * t + s' + 1) w' (1149 + 27 * s' + 4) := a5.c (fun k _ _ => o k _ (by omega)) (fun x _ _ => hw x (by omega) (by omega))
    by_cases c : s' = s
    · subst c
      exact ⟨by rw [f4 1 (by omega), hw _ (by omega) (by omega)]; exact a1, by rw [f4 2 (by omega), hw _ (by omega) (by omega)]; exact a2, by rw [f4 3 (by omega), hw _ (by omega) (by omega)]; exact a3, by rw [g4, hwc], a5'⟩
    · have e24 := o 24 (4 * t + s') (by omega)
      exact ⟨by rw [e24, hw _ (by omega) (by omega)]; exact a1, by rw [e24, hw _ (by omega) (by omega)]; exact a2, by rw [e24, hw _ (by omega) (by omega)]; exact a3, by rw [e24, hw _ (by omega) (by omega)]; exact a4, a5'⟩
  · have h2 : WF (va_up w (1149 + 27 * s + 3) (nI c)) ns np cm nl := by
      refine hW.sess hs (fun x hx => up_ne (by omega)) ?_
      obtain ⟨b1, b2, b3, b4, b5, b6⟩ := hW.ses s hs
      unfold SOK
      rw [up_ne (by omega), up_eq, up_ne (by omega), up_ne (by omega), up_ne (by omega), up_ne (by omega)]
      exact ⟨b1, ⟨c, hc, rfl, fun q => by rw [hop] at q; exact absurd q (by decide)⟩, b3, b4, b5, b6⟩
    refine h2.out (by rw [up_ne (by omega)]; exact hw 2 (by omega) (by omega)) (fun x hx _ _ _ _ _ => ?_)
    by_cases q : x = 1149 + 27 * s + 3
    · rw [q, up_eq, hwc]
    · rw [up_ne q, hw x (by omega) q]
/-! undo -/
def uun (s kk : Nat) (w : Wd) (j : Nat) : Wd := if w (svp s kk j) = 1 then va_cpy w w (svp s kk j + 1) (21 + 47 * j + 25) 22 else wfr w j
theorem uun_lcl {s kk : Nat} : lcl (uun s kk) := by
  refine ⟨fun w j x hx => ?_, fun w w1 j hj h1 h2 x q1 q2 => ?_⟩
  · unfold uun
    split
    · exact cp_out (by omega)
    · exact wfr_out hx
  · unfold uun
    rw [h1 (svp s kk j) (by unfold svp; omega)]
    split
    · by_cases c : 21 + 47 * j + 25 ≤ x ∧ x < 21 + 47 * j + 25 + 22
      · rw [cp_in c.1 c.2, cp_in c.1 c.2, h1 _ (by unfold svp; omega)]
      · rw [cp_out (by omega), cp_out (by omega), h2 x q1 q2]
    · exact wfr_lcl.2 w w1 j hj h1 h2 x q1 q2
def lbu (w : Wd) (s kk j : Nat) : Bool := lbs w (nI s) j && !decide (w (svp s kk j) = 1)
theorem lt_pred {c y : Nat} (hc : c < 1000) (hy : y < 2147483648) : (nI c - 1 < nI y) ↔ c ≤ y := by
  rcases Nat.eq_zero_or_pos c with q | q
  · rw [q]
    refine ⟨fun _ => by omega, fun _ => ?_⟩
    exact Int32.lt_of_lt_of_le (show nI 0 - 1 < 0 from by decide) (nI_pos' (by omega))
  · rw [show (1 : Int32) = nI 1 from rfl, pk_sub (by omega), nI_ltI (by omega) hy]; omega
theorem x_returnBack (h : zC S t w π ns np cm nl) (hZ : WS w ns) {s kk cnt : Nat} (hs : s < ns) (hop : w (1149 + 27 * s + 2) = 1) (hkc : kk < cnt) (hc4 : cnt ≤ 4) (hcn : w (1149 + 27 * s + 3) = nI cnt) {k : Int32 → sSt → Prop} (hk : ∀ S' π' w1, dn (uun s kk) w w1 (fun j => lbs w (nI s) j = true) → zC S' t (va_up w1 (1149 + 27 * s + 3) (nI (kk + 1))) π' ns np cm nl → KP t S S' → k (nI ((List.range' 0 24).countP (lbu w s kk))) S') : F_X6_returnToSavepoint t (nI s) (nI kk) S k := by
  have hT := h.1
  have hO := h.2.1
  have hW := h.2.2
  have hn := hW.hns.1
  have hlen := hO.len
  have e : (List.range' 0 24).countP (lbu w s kk) = (List.range' 0 π.length).countP (fun i => lbu w s kk (pl π i)) := by
    rw [cnt_pl π (fun j => lbu w s kk j), hO.cnt]
    refine List.countP_congr fun o _ => ?_
    unfold lbu lbs
    cases lie w o <;> simp
  rw [e] at hk
  rw [F_X6_returnToSavepoint, hT.size, forall_eq]
  suffices hh : ∀ y m (c : Nat) (S1 : sSt) (w1 : Wd) (π1 : List Nat), y ≤ π.length → y < m → zC S1 t w1 π1 ns np cm nl → KP t S S1 → y ≤ π1.length → (∀ x, x < y → pl π1 x = pl π x) → dn (uun s kk) w w1 (fun j => lbs w (nI s) j = true ∧ ∀ x, x < y → pl π x ≠ j) → (∀ S' π' w1, dn (uun s kk) w w1 (fun j => lbs w (nI s) j = true) → zC S' t (va_up w1 (1149 + 27 * s + 3) (nI (kk + 1))) π' ns np cm nl → KP t S S' → k (nI (c + (List.range' 0 y).countP (fun i => lbu w s kk (pl π i)))) S') → B_X6_returnToSavepoint_10 m t (nI s) (nI kk) (nI c) (nI y - 1) S1 k from
    hh π.length fuel 0 S w π (by omega) (fuel_gt (by omega)) h KP.rfl (by omega) (fun _ _ => rfl) (dn.z (fun j hj q => by
      have : lie w j = true := by have := q.1; unfold lbs at this; simp only [Bool.and_eq_true] at this; exact this.1
      obtain ⟨x, x1, x2⟩ := hO.pos hj this
      exact q.2 x x1 x2)) (by rw [Nat.zero_add]; exact hk)
  clear hk e
  intro y
  induction y with
  | zero =>
    intro m c S1 w1 π1 hy hm hC hK hl1 hx hd hk
    obtain ⟨m, rfl⟩ : ∃ q, m = q + 1 := ⟨m - 1, by omega⟩
    simp only [B_X6_returnToSavepoint_10_s, Bb_X6_returnToSavepoint_10, show nI 0 - 1 = (-1 : Int32) from by decide, show (-1 : Int32) < 0 from by decide, true_implies, not_true_eq_false, false_implies, and_true]
    rw [ix_n (by omega) (by omega), show nI kk + 1 = nI (kk + 1) from nI_1 kk]
    intro Sb eb
    rw [eb]
    refine hk _ π1 w1 (hd.c (fun j _ => ⟨fun q => q.1, fun q => ⟨q, fun x hx => absurd hx (Nat.not_lt_zero x)⟩⟩)) (hC.cnt hs (by rw [hd.1 _ (by omega)]; exact hop) (by omega) (fun x _ hx => up_ne hx) up_eq (fun i hi s' k' hs' hk' hlk hsv => ?_)) (hK.tr (KP.rfl.i (by unfold ow; omega)))
    have hj4 := hC.2.1.at hi
    have hlk' : lkr w1 (pl π1 i) = nI s' := by unfold lkr at *; rw [up_ne (by omega)] at hlk; exact hlk
    have hsv' : nI k' < w1 (1149 + 27 * s' + 3) := by
      by_cases c : s' = s
      · rw [c, up_eq] at hsv
        rw [c, hd.1 _ (by omega), hcn]
        have := (nI_ltI (by omega) (by omega)).mp hsv
        exact nI_lt (by omega) (by omega)
      · rw [up_ne (by omega)] at hsv; exact hsv
    obtain ⟨b1, b2⟩ := (hC.1.job i hi).2 s' k' hs' hk' hlk' hsv'
    exact ⟨by rw [up_ne (by unfold svp; omega)]; exact b1, fun z f hf => by rw [up_ne (by unfold svp; omega)]; exact b2 z f hf⟩
  | succ y ih =>
    intro m c S1 w1 π1 hy hm hC hK hl1 hx hd hk
    obtain ⟨m, rfl⟩ : ∃ q, m = q + 1 := ⟨m - 1, by omega⟩
    have e1 : nI (y + 1) - 1 = nI y := by rw [show (1 : Int32) = nI 1 from rfl, pk_sub (by omega)]; rfl
    have e2 : nI y + (-1) = nI y - 1 := by rw [Int32.sub_eq_add_neg]
    have hj4 := hO.at (show y < π.length by omega)
    have hnd : ¬ (lbs w (nI s) (pl π y) = true ∧ ∀ x, x < y + 1 → pl π x ≠ pl π y) := fun q => q.2 y (by omega) rfl
    have hpy := hx y (by omega)
    have hlb := lbs_at hd hj4 hnd (nI s)
    have hla : lie w1 (pl π y) = true := by rw [← hpy]; exact hC.2.1.la (by omega)
    have hm1 : mine w1 (pl π y) (nI s) = lbs w (nI s) (pl π y) := by
      rw [← hlb]
      exact mine_lbs hla (by omega)
    rw [e1]
    simp only [B_X6_returnToSavepoint_10_s, Bb_X6_returnToSavepoint_10, B_X6_returnToSavepoint_60, nI_pos (show y < 2147483648 by omega), false_implies, true_and, not_false_eq_true, true_implies]
    rw [ix_n (by omega) (by omega), x_isLockedBy hC.1 (by omega), hpy, hm1]
    simp only [b2i_0, Bool.not_eq_false, forall_eq, e2, nI_1]
    have iff : ∀ j, j < 24 → lbs w (nI s) (pl π y) = true → ((lbs w (nI s) j = true ∧ ∀ x, x < y → pl π x ≠ j) ↔ ((lbs w (nI s) j = true ∧ ∀ x, x < y + 1 → pl π x ≠ j) ∨ j = pl π y)) := by
      intro j _ q
      refine ⟨fun z => ?_, fun z => ?_⟩
      · by_cases c' : j = pl π y
        · exact Or.inr c'
        · refine Or.inl ⟨z.1, fun x hx' e => ?_⟩
          by_cases c'' : x = y
          · exact c' (by rw [← e, c''])
          · exact z.2 x (by omega) e
      · rcases z with z | z
        · exact ⟨z.1, fun x hx' => z.2 x (by omega)⟩
        · rw [z]; exact ⟨q, fun x hx' e => by have := hO.inj (by omega) (by omega) e; omega⟩
    refine ⟨fun q => ?_, fun q => ?_⟩
    · refine ih m c S1 w1 π1 (by omega) (by omega) hC hK (by omega) (fun x hx' => hx x (by omega)) (hd.c (fun j _ => ⟨fun z => ⟨z.1, fun x hx' => z.2 x (by omega)⟩, fun z => ⟨z.1, fun x hx' e => ?_⟩⟩)) (by
        have : lbu w s kk (pl π y) = false := by unfold lbu; rw [q]; rfl
        rw [range_up, this] at hk; exact hk)
      by_cases c' : x = y
      · rw [← e, c', q] at z; exact absurd z.1 (by decide)
      · exact z.2 x (by omega) e
    · have hlk : lkr w1 (pl π y) = nI s := by
        have := hlb.trans q
        unfold lbs at this
        simp only [Bool.and_eq_true, decide_eq_true_eq] at this
        exact this.2
      obtain ⟨b1, b2⟩ := (hC.1.job y (by omega)).2 s kk hs (by omega) (by rw [hpy]; exact hlk) (by rw [hd.1 _ (by omega), hcn]; exact nI_lt hkc (by omega))
      rw [hpy] at b1 b2
      have hfl : w1 (svp s kk (pl π y)) = w (svp s kk (pl π y)) := hd.1 _ (by unfold svp; omega)
      rw [x_isSavedAt (by omega), b1, hfl]
      simp only [b2i_0, decide_eq_false_iff_not, Decidable.not_not]
      refine ⟨fun c2 => ?_, fun c2 => ?_⟩
      · refine x_release hC (by omega) (fun S' h' k' => ?_)
        rw [hpy] at h'
        have eu : uun s kk w1 (pl π y) = wfr w1 (pl π y) := by unfold uun; rw [if_neg (by rw [hfl]; exact c2)]
        rw [← eu] at h'
        refine ih m (c + 1) S' _ _ (by omega) (by omega) h' (hK.tr k') (fpi_len (by omega)) (fun x hx' => by rw [fpi_lo hx']; exact hx x (by omega)) (hd.s uun_lcl hj4 hnd (fun j hj => iff j hj q)) (by
          have : lbu w s kk (pl π y) = true := by unfold lbu; simp [q, c2]
          rw [range_up, this, if_pos rfl] at hk
          rw [show ∀ Q, c + 1 + Q = c + (Q + 1) from fun Q => by omega]; exact hk)
      · have b2' := b2 (by rw [b1, hfl, c2]; rfl)
        have h1k : ¬ nI kk < 0 := nI_pos (by omega)
        have h2k : ¬ (4 : Int32) ≤ nI kk := nI_ge (b := 4) (by omega) (by omega)
        rw [F_X1_returnTo]
        refine ⟨fun z => absurd z h1k, fun _ => ⟨fun z => absurd z h2k, fun _ => ?_⟩⟩
        rw [ix_n (by omega) (by omega)]
        have eu : uun s kk w1 (pl π y) = va_cpy w1 w1 (svp s kk (pl π y) + 1) (21 + 47 * (pl π y) + 25) 22 := by unfold uun; rw [if_pos (by rw [hfl]; exact c2)]
        refine x_copyV (fun S' g1 g2 g3 => ?_)
        have hqn : S1.2 14 t y / 24 = t := hC.1.ref.1 y (by omega)
        have h' : zC S' t (uun s kk w1 (pl π y)) π1 ns np cm nl := by
          rw [eu]
          have e21 : S'.1 21 (S1.2 14 t y) = S1.1 21 (S1.2 14 t y) := g2 _ _ (by omega)
          refine ⟨hC.1.upd hC.2.1 hn hW.hnp.1 hW.hnl.1 (show y < π1.length by omega) (fun k a q1 q2 => g2 _ _ (fun z => q2 ⟨z.1, by omega⟩)) g3 (fun x hx' => cp_out (by rw [hpy] at hx'; omega)) ?_ ?_, hC.2.1.c (fun j _ => cp_out (by omega)), hC.2.2.slot (fun x hx' => cp_out (by omega)) hj4 ?_ (Or.inl (cp_out (by omega)))⟩
          · obtain ⟨a1, a2, a3, a4, a5⟩ := (hC.1.job y (by omega)).1
            rw [hpy] at a1 a2 a3 a4 a5 ⊢
            unfold JR num lkr at *
            rw [e21, cp_out (by omega), cp_out (by omega), cp_out (by omega)]
            refine ⟨a1, a2, a3, fun c f hf => ?_, fun c f hf => ?_⟩
            · rw [cJ.c e21 (g2 _ _ (by omega)), cp_out (by omega)]; exact a4 c f hf
            · rw [cJ.g (S := S1) (q := S1.2 14 t y) (v := 6 * S1.2 14 t y + 2 + kk) (fun f _ => by rw [e21]) (fun f hf => by rw [g1]; exact if_pos hf), cp_in (by omega) (by omega), b2' f hf]
              congr 1; omega
          · have := (hC.1.job y (by omega)).2
            rw [hpy] at this ⊢
            exact this.c hj4 hn e21 (fun d hd => g2 _ _ (by omega)) (cp_out (by omega)) (fun s _ => cp_out (by omega)) (fun x _ _ => cp_out (by omega))
          · rcases hC.2.2.job (pl π y) hj4 with z | ⟨z1, z2, z3, z4, z5, z6⟩
            · exact absurd z (lie_n hla)
            · have hvk : VOK w (svp s kk (pl π y) + 1) := (hZ s kk (pl π y) hs (by omega) hj4 (by rw [hcn]; exact nI_lt hkc (by omega)) c2).2.2.1
              have e0 : num (va_cpy w1 w1 (svp s kk (pl π y) + 1) (21 + 47 * (pl π y) + 25) 22) (pl π y) = num w1 (pl π y) := cp_out (by omega)
              have e2 : lkr (va_cpy w1 w1 (svp s kk (pl π y) + 1) (21 + 47 * (pl π y) + 25) 22) (pl π y) = lkr w1 (pl π y) := cp_out (by omega)
              refine Or.inr ⟨by rw [e0]; exact z1, by rw [cp_out (by omega)]; exact z2, by rw [cp_out (by omega), e2]; exact z3, by rw [e2]; exact z4, fun q => ?_, fun q => ?_⟩
              · rw [cp_out (by omega)] at q
                exact (z5 q).c (fun f hf => cp_out (by omega))
              · exact hvk.c (fun f hf => by
                  rw [cp_in (by omega) (by omega), hd.1 _ (by unfold svp; omega)]
                  congr 1; omega)
        refine ih m c S' _ _ (by omega) (by omega) h' (hK.tr ⟨fun k a z => g2 _ _ (fun y => z (by unfold ow; omega)), fun k a _ => by rw [g3]⟩) (by omega) (fun x hx' => hx x (by omega)) (hd.s uun_lcl hj4 hnd (fun j hj => iff j hj q)) (by
          have : lbu w s kk (pl π y) = false := by unfold lbu; simp [c2]
          rw [range_up, this] at hk; exact hk)
theorem m_saveAt {s k' j : Nat} {k : Int32 → sSt → Prop} : F_X12_saveAt (nI s) (nI k') (nI j) S k ↔ k (nI (svp s k' j)) S := by
  rw [F_X12_saveAt]
  have e : ((1589 + (552 * ((4 * nI s) + nI k'))) + (23 * nI j) : Int32) = nI (svp s k' j) := by
    rw [show (1589 : Int32) = nI 1589 from rfl, show (552 : Int32) = nI 552 from rfl, show (4 : Int32) = nI 4 from rfl, show (23 : Int32) = nI 23 from rfl, pk_mul, nI_add, pk_mul, nI_add, pk_mul, nI_add]
    rfl
  rw [e]
theorem m_undo82 (hn : ns ≤ 4) {s kk : Nat} (hs : s < ns) (hkk : kk < 4) {k : Int32 → sSt → Prop} (hk : ∀ w1, dn (uun s kk) w w1 (fun j => lbs w (nI s) j = true) → k (nI ((List.range' 0 24).countP (lbu w s kk))) (sw S (va_up w1 (1149 + 27 * s + 3) (nI (kk + 1))))) : B_X12_undo_82 fuel (nI s) (nI kk) 0 0 (sw S w) k := by
  suffices hh : ∀ r i m (c : Nat) w1, i + r = 24 → r < m → dn (uun s kk) w w1 (fun j => lbs w (nI s) j = true ∧ j < i) → c + (List.range' i r).countP (lbu w s kk) = (List.range' 0 24).countP (lbu w s kk) → B_X12_undo_82 m (nI s) (nI kk) (nI c) (nI i) (sw S w1) k from
    hh 24 0 fuel 0 w (by omega) (fuel_gt (by omega)) (dn.z (fun j _ q => absurd q.2 (by omega))) (by omega)
  intro r
  induction r with
  | zero =>
    intro i m c w1 hi hm hd hcn
    obtain ⟨m, rfl⟩ : ∃ q, m = q + 1 := ⟨m - 1, by omega⟩
    have e : i = 24 := by omega
    subst e
    have ec : c = (List.range' 0 24).countP (lbu w s kk) := by simpa using hcn
    simp only [B_X12_undo_82_s, Bb_X12_undo_82, show (24 : Int32) ≤ nI 24 from by decide, true_implies, not_true_eq_false, false_implies, and_true, m_sessAt3]
    rw [ix_n (by omega) (by omega)]
    simp only [forall_eq, sw_i, show nI kk + 1 = nI (kk + 1) from nI_1 kk]
    rw [ec]
    exact hk w1 (hd.c (fun j hj => ⟨fun q => q.1, fun q => ⟨q, hj⟩⟩))
  | succ r ih =>
    intro i m c w1 hi hm hd hcn
    obtain ⟨m, rfl⟩ : ∃ q, m = q + 1 := ⟨m - 1, by omega⟩
    have h : ¬ (24 : Int32) ≤ nI i := nI_ge (b := 24) (by omega) (by omega)
    have hnd : ¬ (lbs w (nI s) i = true ∧ i < i) := fun q => absurd q.2 (by omega)
    have hL := lbs_at hd (show i < 24 by omega) hnd (nI s)
    have hfl : w1 (svp s kk i) = w (svp s kk i) := hd.1 _ (by unfold svp; omega)
    rw [List.range'_succ, List.countP_cons] at hcn
    simp only [B_X12_undo_82_s, Bb_X12_undo_82, B_X12_undo_162, h, false_implies, true_and, not_false_eq_true, true_implies, m_numberOf (show i < 24 by omega), m_lockerOf (show i < 24 by omega), m_frees (show i < 24 by omega), m_saveAt, m_jobAt25, sw_w, forall_eq, nI_1]
    rw [ix_n (by unfold svp; omega) (by omega), m_copies22 (by unfold svp; omega) (by unfold svp; omega) (by omega), hfl]
    have no : lbs w (nI s) i = false → B_X12_undo_82 m (nI s) (nI kk) (nI c) (nI (i + 1)) (sw S w1) k := fun q => ih (i + 1) m c w1 (by omega) (by omega) (hd.c (fun j _ => ⟨fun z => ⟨z.1, by omega⟩, fun z => ⟨z.1, by
      have : j ≠ i := fun e => by rw [e, q] at z; exact absurd z.1 (by decide)
      omega⟩⟩)) (by have : lbu w s kk i = false := by (unfold lbu; rw [q]; rfl)
                    rw [this] at hcn; simpa using hcn)
    have iff : lbs w (nI s) i = true → ∀ j, j < 24 → ((lbs w (nI s) j = true ∧ j < i + 1) ↔ ((lbs w (nI s) j = true ∧ j < i) ∨ j = i)) := fun q j _ => ⟨fun z => by
        by_cases e : j = i
        · exact Or.inr e
        · exact Or.inl ⟨z.1, by omega⟩, fun z => by
        rcases z with z | z
        · exact ⟨z.1, by omega⟩
        · rw [z]; exact ⟨q, by omega⟩⟩
    refine ⟨fun c1 => no ?_, fun c1 => ⟨fun c2 => ?_, fun c2 => no ?_⟩⟩
    · rw [← hL]; unfold lbs lie; rw [c1]; rfl
    · have q : lbs w (nI s) i = true := by rw [← hL]; unfold lbs lie; simp [c1, c2]
      refine ⟨fun c3 => ?_, fun c3 => ?_⟩
      · have eu : uun s kk w1 i = wfr w1 i := by unfold uun; rw [if_neg (by rw [hfl]; exact c3)]
        rw [← eu]
        refine ih (i + 1) m (c + 1) _ (by omega) (by omega) (hd.s uun_lcl (by omega) hnd (iff q)) ?_
        have : lbu w s kk i = true := by unfold lbu; simp [q, c3]
        rw [this, if_pos rfl] at hcn; omega
      · have eu : uun s kk w1 i = va_cpy w1 w1 (svp s kk i + 1) (21 + 47 * i + 25) 22 := by unfold uun; rw [if_pos (by rw [hfl]; exact c3)]
        rw [← eu]
        refine ih (i + 1) m c _ (by omega) (by omega) (hd.s uun_lcl (by omega) hnd (iff q)) ?_
        have : lbu w s kk i = false := by unfold lbu; simp [c3]
        rw [this] at hcn; simpa using hcn
    · rw [← hL]; unfold lbs; simp [c2]
theorem WS.undo (h : WS w ns) (hn : ns ≤ 4) {s kk cnt : Nat} (hss : s < ns) (hkc : kk < cnt) (hc4 : cnt ≤ 4) (hcn : w (1149 + 27 * s + 3) = nI cnt) {w1 : Wd} (hd : dn (uun s kk) w w1 (fun j => lbs w (nI s) j = true)) : WS (va_up w1 (1149 + 27 * s + 3) (nI (kk + 1))) ns := by
  intro s' k j hs' hk hj hsv hf
  rw [up_ne (by unfold svp; omega), hd.1 _ (by unfold svp; omega)] at hf
  have lo : ∀ k', nI k' < va_up w1 (1149 + 27 * s + 3) (nI (kk + 1)) (1149 + 27 * s' + 3) → k' < 4 → nI k' < w (1149 + 27 * s' + 3) := by
    intro k' q hk'
    by_cases c : s' = s
    · rw [c, up_eq, nI_ltI (by omega) (by omega)] at q
      rw [c, hcn]; exact nI_lt (by omega) (by omega)
    · rw [up_ne (by omega), hd.1 _ (by omega)] at q; exact q
  obtain ⟨g1, g2, gv, gm⟩ := h s' k j hs' hk hj (lo k hsv hk) hf
  have ex : w1 (21 + 47 * j) = w (21 + 47 * j) ∧ w1 (21 + 47 * j + 2) = w (21 + 47 * j + 2) := by
    by_cases c : s' = s
    · have hD : lbs w (nI s) j = true := by unfold lbs; rw [g1, g2, c]; simp
      have k1 : k ≤ kk := by rw [c, up_eq, nI_ltI (by omega) (by omega)] at hsv; omega
      have hf2 := gm kk k1 (by omega) (by rw [c, hcn]; exact nI_lt hkc (by omega))
      rw [c] at hf2
      have e0 := (hd.2 j hj (21 + 47 * j) (by omega) (by omega)).1 hD
      have e2 := (hd.2 j hj (21 + 47 * j + 2) (by omega) (by omega)).1 hD
      unfold uun at e0 e2
      rw [if_pos hf2, cp_out (by omega)] at e0 e2
      exact ⟨e0, e2⟩
    · have hnd : ¬ lbs w (nI s) j = true := by
        unfold lbs
        rw [g1, g2]
        simp only [Bool.true_and, decide_eq_true_eq]
        intro q; exact c ((nI_eq (by omega) (by omega)).mp q)
      have := hd.at hj hnd 0 (by omega)
      rw [Nat.add_zero] at this
      exact ⟨this, hd.at hj hnd 2 (by omega)⟩
  refine ⟨?_, ?_, gv.c (fun f hf => by rw [up_ne (by unfold svp; omega), hd.1 _ (by unfold svp; omega)]), fun k' q1 q2 q3 => ?_⟩
  · unfold lie num at *
    rw [up_ne (by omega), ex.1]; exact g1
  · unfold lkr at *
    rw [up_ne (by omega), ex.2]; exact g2
  · rw [up_ne (by unfold svp; omega), hd.1 _ (by unfold svp; omega)]
    exact gm k' q1 q2 (lo k' q3 q2)
theorem cs_8 (h : Inv n Sc Sm) {a1 a2 a3 a4 a5 : Int32} {o : Int64} : CS_8 a1 a2 a3 a4 a5 Sc Sm o (fun S1 S2 _ => Inv (n + 1) S1 S2) := by
  obtain ⟨l, sp, π, ns, np, cm, nl, hR, hB, hc⟩ := h
  obtain ⟨w, hw⟩ : ∃ w, w = Sm.1 1 0 := ⟨_, rfl⟩
  have hs : Sm = sw Sm w := by rw [hw, sw_s]
  rw [← hw] at hB
  have hW := hB.2.2.1
  have hn := hW.hns.1
  have m0 : MK Sm (uI Sm 0 0 0 0) := MK.rfl.f (by omega)
  show FW_undo a1 a2 Sc o (fun r1 S2 o3 => F_X12_undo a1 a2 Sm (tl n r1 S2 o3))
  unfold FW_undo F_X11_undo
  refine x_needSession hR.2.1 hB (fun s hs' ha => ?_) (fun hno => ⟨fun _ => ?_, fun q => absurd rfl q⟩)
  · obtain ⟨s1, s2, s3, s4, s5⟩ := hB.1.ses s hs'
    obtain ⟨o1, ⟨cnt, hc4, hcn, -⟩, -⟩ := hW.ses s hs'
    rw [ha, hR.2.1, ix_n (by omega) (by omega), s3, s4, hcn]
    have open1 : w (1149 + 27 * s + 2) ≠ 0 → opn w s = true := fun q => by unfold opn; rw [o1.resolve_left q]; rfl
    have start : ∀ {kk : Int32 → sSt → Prop}, w (1149 + 27 * s + 2) ≠ 0 → (((!(decide (a2 < 0) || decide (nI cnt - 1 < a2))) = true → B_X12_undo_63 (nI s) a2 0 (sw (uI Sm 0 0 0 0) w) kk) ∧ ((!(decide (a2 < 0) || decide (nI cnt - 1 < a2))) = false → B_X12_undo_63 (nI s) a2 1 (sw (uI Sm 0 0 0 0) w) kk)) → F_X12_undo (nI s) a2 Sm kk := by
      intro kk q hq
      rw [hs, F_X12_undo]
      rintro S1 rfl
      rw [sw_c (by omega)]
      refine m_needS (fun q => absurd (hasS_of hW hs') (by rw [q]; decide)) (fun _ => ?_)
      rw [m_isOpen (by omega), sw_w, open1 q]
      refine ⟨fun _ => ?_, fun q => absurd q (by decide)⟩
      rw [m_sessAt3, ix_n (by omega) (by omega), sw_w, hcn, m_in]
      simp only [b2i_0, Bool.not_eq_false]
      exact ⟨hq.1, hq.2⟩
    have bad : w (1149 + 27 * s + 2) ≠ 0 → ¬ (¬ a2 < 0 ∧ ¬ nI cnt - 1 < a2) → F_X12_undo (nI s) a2 Sm (tl n 3 Sc o) := by
      intro q q2
      refine start q ⟨fun z => absurd (in_b.mp z) q2, fun _ => ?_⟩
      rw [B_X12_undo_63, m_throws1, sw_c (by omega)]
      exact ⟨fun q => absurd q (by decide), fun _ => tl_ex uI_at (by decide) (inv_same hR hB hc (m0.f (by omega)))⟩
    refine ⟨fun c => ?_, fun c => ⟨fun c1 => ?_, fun c1 => ⟨fun c2 => ?_, fun c2 => ?_⟩⟩⟩
    · rw [B_X11_undo_42]
      refine x_settleOpen hR.2.1 hB hs' (fun hop => ?_) (fun hop => ?_)
      · unfold opn at hop; rw [c] at hop; exact absurd hop (by decide)
      · refine ⟨fun q => absurd q (by decide), fun _ => ⟨fun _ => ?_, fun q => absurd rfl q⟩⟩
        show F_X12_undo (nI s) a2 Sm (tl n 2 _ _)
        rw [hs, F_X12_undo]
        rintro S1 rfl
        rw [sw_c (by omega)]
        refine m_needS (fun q => absurd (hasS_of hW hs') (by rw [q]; decide)) (fun _ => ?_)
        rw [m_isOpen (by omega), sw_w, hop]
        refine ⟨fun q => absurd rfl q, fun _ => ?_⟩
        rw [m_refuses, if_neg (by decide)]
        exact tl_ex uI_at (by decide) (inv_why hR hB hc mk_refuse)
    · rw [B_X11_undo_34]
      refine ⟨fun q => absurd q (by decide), fun _ => ⟨fun q => absurd q (by decide), fun _ => ⟨fun _ => bad c (fun q => q.1 c1), fun q => absurd rfl q⟩⟩⟩
    · rw [B_X11_undo_42]
      obtain ⟨kk, k1, k2⟩ := nI_of c1
      rw [k2, nI_ltI k1 (by omega)] at c2
      refine x_settleOpen hR.2.1 hB hs' (fun hop => ?_) (fun hop => ?_)
      · rw [show (uI Sc 0 0 7 0).2 0 0 4 = l from hR.2.1, k2]
        refine x_returnBack (h := (⟨hB.f0.1, hB.2.1, hB.2.2.1⟩ : zC (uI Sc 0 0 7 0) l w π ns np cm nl)) hB.2.2.2 hs' (o1.resolve_left c) c2 hc4 hcn (fun S' π' w1 hd hC hK => ?_)
        rw [← k2]
        show F_X12_undo (nI s) a2 Sm (tl n 0 S' _)
        refine start c ⟨fun _ => ?_, fun z => ?_⟩
        · rw [B_X12_undo_63, m_throws0]
          refine ⟨fun _ => ?_, fun q => absurd rfl q⟩
          rintro S1 rfl
          rw [sw_c (by omega), k2]
          refine m_undo82 hn hs' (by omega) (fun w2 hd2 => ?_)
          rw [hd2.u hd]
          exact tl_ok (by rw [uI_nc (by omega)]; exact uI_at) (inv_upd (hR.why 0) ⟨hC.1, hC.2.1, hC.2.2, hB.2.2.2.undo hn hs' c2 hc4 hcn hd⟩ (c_le hc) hK (by rw [hK.2 14 sp (by have := hR.1; omega)]) mk_well) rfl
        · have := in_b.mpr (⟨c1, fun q => by rw [k2, lt_pred (by omega) k1] at q; omega⟩ : ¬ a2 < 0 ∧ ¬ nI cnt - 1 < a2)
          rw [this] at z; exact absurd z (by decide)
      · rw [open1 c] at hop; exact absurd hop (by decide)
    · rw [B_X11_undo_34]
      refine ⟨fun q => absurd q (by decide), fun _ => ⟨fun q => absurd q (by decide), fun _ => ⟨fun _ => bad c (fun q => ?_), fun q => absurd rfl q⟩⟩⟩
      obtain ⟨kk, k1, k2⟩ := nI_of c1
      rw [k2, nI_ltI k1 (by omega)] at c2
      rw [k2, lt_pred (by omega) k1] at q
      exact q.2 (by omega)
  · show F_X12_undo a1 a2 Sm (tl n 1 Sc o)
    rw [hs, F_X12_undo]
    rintro S1 rfl
    rw [sw_c (by omega)]
    exact m_needS (fun _ S' g1 g2 => tl_ex g1 (by decide) (inv_same hR hB hc (m0.tr g2))) (fun q => absurd hno (by rw [q]; decide))
end CS
end PU36
