section PU37
/-! CALLS: save -/
/-- the savepoint's rows up to slot i have been written -/
def wsv (s c : Nat) (w : Wd) (i : Nat) : Wd := fun x => if svp s c 0 ≤ x ∧ x < svp s c 0 + 23 * i then (if (x - svp s c 0) % 23 = 0 then b2i (lbs w (nI s) ((x - svp s c 0) / 23)) else w (21 + 47 * ((x - svp s c 0) / 23) + 25 + ((x - svp s c 0) % 23 - 1))) else w x
theorem svp_j {s c j : Nat} : svp s c j = svp s c 0 + 23 * j := by unfold svp; omega
theorem wsv_out {s c i x : Nat} {w : Wd} (h : x < svp s c 0 ∨ svp s c 0 + 23 * i ≤ x) : wsv s c w i x = w x := by unfold wsv; rw [if_neg (by omega)]
theorem wsv_f {s c i j : Nat} {w : Wd} (h : j < i) : wsv s c w i (svp s c j) = b2i (lbs w (nI s) j) := by
  unfold wsv
  rw [svp_j (j := j), if_pos (by omega), show svp s c 0 + 23 * j - svp s c 0 = 23 * j from by omega, if_pos (by omega), show 23 * j / 23 = j from by omega]
theorem wsv_v {s c i j f : Nat} {w : Wd} (h : j < i) (hf : f < 22) : wsv s c w i (svp s c j + 1 + f) = w (21 + 47 * j + 25 + f) := by
  unfold wsv
  rw [svp_j (j := j), if_pos (by omega), show svp s c 0 + 23 * j + 1 + f - svp s c 0 = 23 * j + (f + 1) from by omega, if_neg (by omega), show (23 * j + (f + 1)) / 23 = j from by omega, show (23 * j + (f + 1)) % 23 - 1 = f from by omega]
theorem wsv_s {s c i : Nat} {w : Wd} (hi : i < 24) : wsv s c w (i + 1) = va_cpy (va_up (wsv s c w i) (svp s c i) (b2i (lbs w (nI s) i))) (va_up (wsv s c w i) (svp s c i) (b2i (lbs w (nI s) i))) (21 + 47 * i + 25) (svp s c i + 1) 22 := by
  funext x
  by_cases c1 : svp s c i + 1 ≤ x ∧ x < svp s c i + 1 + 22
  · have := wsv_v (s := s) (c := c) (i := i + 1) (j := i) (f := x - (svp s c i + 1)) (w := w) (by omega) (by omega)
    rw [show svp s c i + 1 + (x - (svp s c i + 1)) = x from by omega] at this
    rw [this, cp_in c1.1 c1.2, up_ne (by unfold svp at *; omega), wsv_out (by unfold svp at *; omega)]
  · rw [cp_out (by omega)]
    by_cases c2 : x = svp s c i
    · rw [c2, up_eq, wsv_f (by omega)]
    · rw [up_ne c2]
      have e := svp_j (s := s) (c := c) (j := i)
      unfold wsv
      by_cases c3 : svp s c 0 ≤ x ∧ x < svp s c 0 + 23 * i
      · rw [if_pos c3, if_pos (by omega)]
      · rw [if_neg c3, if_neg (by omega)]
section CS
variable {Sc Sc' Sm S' S : sSt} {l sp n t : Nat} {w w' : Wd} {π π' : List Nat} {ns np cm nl ns' np' cm' nl' : Nat}
theorem m_save68 {s c : Nat} (hs : s < 4) (hc : c < 4) {k : Int32 → sSt → Prop} (hk : k (nI c) (sw S (va_up (wsv s c w 24) (1149 + 27 * s + 3) (nI (c + 1))))) : B_X12_save_68 fuel (nI s) (nI c) 0 (sw S w) k := by
  suffices hh : ∀ r i m, i + r = 24 → r < m → B_X12_save_68 m (nI s) (nI c) (nI i) (sw S (wsv s c w i)) k by
    have := hh 24 0 fuel (by omega) (fuel_gt (by omega))
    rw [show wsv s c w 0 = w from funext fun x => wsv_out (by omega)] at this
    exact this
  intro r
  induction r with
  | zero =>
    intro i m hi hm
    obtain ⟨m, rfl⟩ : ∃ q, m = q + 1 := ⟨m - 1, by omega⟩
    have e : i = 24 := by omega
    subst e
    simp only [B_X12_save_68_s, Bb_X12_save_68, show (24 : Int32) ≤ nI 24 from by decide, true_implies, not_true_eq_false, false_implies, and_true, m_sessAt3]
    rw [ix_n (by omega) (by omega)]
    simp only [forall_eq, sw_i, show nI c + 1 = nI (c + 1) from nI_1 c]
    exact hk
  | succ r ih =>
    intro i m hi hm
    obtain ⟨m, rfl⟩ : ∃ q, m = q + 1 := ⟨m - 1, by omega⟩
    have h : ¬ (24 : Int32) ≤ nI i := nI_ge (b := 24) (by omega) (by omega)
    have e0 : num (wsv s c w i) i = num w i := wsv_out (by unfold svp; omega)
    have e2 : lkr (wsv s c w i) i = lkr w i := wsv_out (by unfold svp; omega)
    have key : ∀ b : Bool, lbs w (nI s) i = b → B_X12_save_107 (fun a b c S => B_X12_save_68 m a b c S k) (nI s) (nI c) (nI i) (nI (svp s c i)) (b2i b) (sw S (wsv s c w i)) k := by
      intro b hb
      rw [B_X12_save_107, ix_n (by unfold svp; omega) (by omega)]
      simp only [forall_eq, sw_i, m_jobAt25, m_saveAt, show nI (svp s c i) + 1 = nI (svp s c i + 1) from nI_1 _, m_copies22 (show 21 + 47 * i + 25 + 22 ≤ svp s c i + 1 ∨ svp s c i + 1 + 22 ≤ 21 + 47 * i + 25 by unfold svp; omega) (show 21 + 47 * i + 25 + 22 ≤ 10421 by omega) (show svp s c i + 1 + 22 ≤ 10421 by unfold svp; omega), nI_1]
      have := ih (i + 1) m (by omega) (by omega)
      rw [wsv_s (by omega), hb] at this
      exact this
    simp only [B_X12_save_68_s, Bb_X12_save_68, B_X12_save_106, h, false_implies, true_and, not_false_eq_true, true_implies, m_saveAt, m_numberOf (show i < 24 by omega), m_lockerOf (show i < 24 by omega), sw_w, e0, e2]
    have k0 := key false
    have k1 := key true
    rw [b2i_f] at k0
    rw [b2i_t] at k1
    refine ⟨fun c1 => k0 ?_, fun c1 => ⟨fun c2 => k0 ?_, fun c2 => k1 ?_⟩⟩
    · unfold lbs lie; rw [c1]; rfl
    · unfold lbs; simp [c2]
    · unfold lbs lie; simp [c1, c2]
theorem x_saveAt1 (hT : zT S t w π ns np nl) (hO : zOrd w π) (hn : ns ≤ 4) (hp : np ≤ 4) (hl : nl ≤ 60) {i s c : Nat} (hi : i < π.length) (hs : s < ns) (hlk : lkr w (pl π i) = nI s) (hc : c < 4) (hcn : w (1149 + 27 * s + 3) = nI c) {k : sSt → Prop} (hk : ∀ S', zT S' t w π ns np nl → KP t S S' → S'.2 = S.2 → S'.1 24 = S.1 24 → svb S' (S.2 14 t i) c = true → VR S' (S.2 14 t i) (6 * S.2 14 t i + 2 + c) w (21 + 47 * pl π i + 25) → (∀ k a, ¬ (k = 21 ∧ a = S.2 14 t i) → ¬ (k = 22 ∧ a = 6 * S.2 14 t i + 2 + c) → S'.1 k a = S.1 k a) → k S') : F_X1_saveAt (S.2 14 t i) (nI c) S k := by
  have hlen := hO.len
  have hj4 := hO.at hi
  have hq := hT.ref.1 i (by omega)
  rw [F_X1_saveAt]
  refine ⟨fun z => absurd z (nI_pos (by omega)), fun _ => ⟨fun z => absurd z (nI_ge (b := 4) hc (by omega)), fun _ => ?_⟩⟩
  rw [ix_n (by omega) (by omega)]
  refine x_copyV (fun S9 g1 g2 g3 => ?_)
  rintro S' e'
  have o : ∀ k a, ¬ (k = 21 ∧ a = S.2 14 t i) → ¬ (k = 22 ∧ a = 6 * S.2 14 t i + 2 + c) → S'.1 k a = S.1 k a := fun k a c1 c2 => by rw [e', uI_other c1, g2 _ _ c2]
  have r : S'.2 = S.2 := by rw [e']; exact g3
  have f21 : ∀ f, f ≠ 3 → S'.1 21 (S.2 14 t i) f = S.1 21 (S.2 14 t i) f := fun f hf => by rw [e', uI_nc (by omega), g2 _ _ (by omega)]
  have f3 : S'.1 21 (S.2 14 t i) 3 = S.1 21 (S.2 14 t i) 3 ||| (1 <<< (nI c &&& 31)) := by rw [e', uI_at, g2 _ _ (by omega)]
  have f22 : ∀ f, f < 8 → S'.1 22 (6 * S.2 14 t i + 2 + c) f = S.1 22 (6 * S.2 14 t i + 1) f := fun f hf => by rw [e', uI_other (by omega), g1]; exact if_pos hf
  obtain ⟨a1, a2, a3, a4, a5⟩ := (hT.job i hi).1
  have cj : ∀ v, v ≠ 6 * S.2 14 t i + 2 + c → ∀ f, cJ S' (S.2 14 t i) v f = cJ S (S.2 14 t i) v f := fun v hv f => cJ.g (fun f hf => f21 f (by omega)) (fun f _ => by rw [o 22 v (by omega) (by omega)]) f
  have vown : VR S' (S.2 14 t i) (6 * S.2 14 t i + 2 + c) w (21 + 47 * pl π i + 25) := fun f hf => by
    rw [cJ.g (S := S) (q := S.2 14 t i) (v := 6 * S.2 14 t i + 1) (fun f hf => f21 f (by omega)) f22]
    exact a5 (by rw [hlk]; exact ni_m1 (by omega)) f hf
  have hsv : svb S' (S.2 14 t i) c = true := by
    unfold svb; rw [f3, decide_eq_true_eq]; exact (sv_or hc hc).mpr (Or.inl rfl)
  refine hk S' (hT.upd hO hn hp hl hi (fun k a c1 c2 => o k a c1 (fun z => c2 ⟨z.1, by omega⟩)) r (fun _ _ => rfl) ?_ ?_) ⟨fun k a z => o k a (fun y => z (by unfold ow; omega)) (fun y => z (by unfold ow; omega)), fun k a _ => by rw [r]⟩ r (by funext a; exact o 24 a (by omega) (by omega)) hsv vown o
  · exact ⟨by rw [f21 6 (by omega)]; exact a1, by rw [f21 5 (by omega)]; exact a2, by rw [f21 4 (by omega)]; exact a3, fun z f hf => by rw [cj _ (by omega)]; exact a4 z f hf, fun z f hf => by rw [cj _ (by omega)]; exact a5 z f hf⟩
  · intro s' k' hs' hk' hlk' hsv'
    have es : s' = s := (nI_eq (by omega) (by omega)).mp (hlk'.symm.trans hlk)
    subst es
    rw [hcn, nI_ltI (by omega) (by omega)] at hsv'
    obtain ⟨b1, b2⟩ := (hT.job i hi).2 s' k' hs' hk' hlk' (by rw [hcn]; exact nI_lt hsv' (by omega))
    have e : svb S' (S.2 14 t i) k' = svb S (S.2 14 t i) k' := by
      unfold svb; rw [f3]
      refine decide_eq_decide.mpr ⟨fun z => ((sv_or hc hk').mp z).resolve_left (by omega), fun z => (sv_or hc hk').mpr (Or.inr z)⟩
    rw [e]
    exact ⟨b1, fun z f hf => by rw [cj _ (by omega)]; exact b2 z f hf⟩
theorem x_keepSavepoint (h : zB S t w π ns np cm nl) {s c : Nat} (hs : s < ns) (hop : w (1149 + 27 * s + 2) = 1) (hc : c < 4) (hcn : w (1149 + 27 * s + 3) = nI c) {k : sSt → Prop} (hk : ∀ S', zC S' t (va_up (wsv s c w 24) (1149 + 27 * s + 3) (nI (c + 1))) π ns np cm nl → KP t S S' → S'.1 24 (4 * t + s) 4 = nI (c + 1) → k S') : F_X6_keepSavepoint t (nI s) S k := by
  obtain ⟨hT, hO, hW, hZ⟩ := h
  have hn := hW.hns.1
  have hlen := hO.len
  rw [F_X6_keepSavepoint, ix_n (by omega) (by omega)]
  suffices hh : ∀ r i m (S1 : sSt), i + r = π.length → r < m → zT S1 t w π ns np nl → KP t S S1 → S1.2 = S.2 → S1.1 24 = S.1 24 → (∀ x, x < i → lkr w (pl π x) = nI s → svb S1 (S.2 14 t x) c = true ∧ VR S1 (S.2 14 t x) (6 * S.2 14 t x + 2 + c) w (21 + 47 * pl π x + 25)) → B_X6_keepSavepoint_9 m t (nI s) (4 * t + s) (nI i) S1 k from
    hh π.length 0 fuel S (by omega) (fuel_gt (by omega)) hT KP.rfl rfl rfl (fun x hx => absurd hx (Nat.not_lt_zero x))
  intro r
  induction r with
  | zero =>
    intro i m S1 hi hm hT1 hK h2 h24 hsv
    obtain ⟨m, rfl⟩ : ∃ q, m = q + 1 := ⟨m - 1, by omega⟩
    have e : i = π.length := by omega
    subst e
    have c4 : S1.1 24 (4 * t + s) 4 = nI c := (hT1.ses s hs).2.2.2.1.trans hcn
    simp only [B_X6_keepSavepoint_9_s, Bb_X6_keepSavepoint_9, hT1.size, nI_leI (show π.length < 2147483648 by omega) (show π.length < 2147483648 by omega), Nat.le_refl, true_implies, not_true_eq_false, false_implies, and_true, c4, show nI c + 1 = nI (c + 1) from nI_1 c]
    rintro S5 rfl
    refine hk _ (zC.cnt ⟨hT1, hO, hW⟩ hs hop (by omega) (fun x h1 h2 => by rw [up_ne h2, wsv_out (by unfold svp; omega)]) up_eq (fun x hx s' k' hs' hk' hlk hsv' => ?_)) (hK.tr (KP.rfl.i (by unfold ow; omega))) uI_at
    have hj4 := hO.at hx
    have hlk' : lkr w (pl π x) = nI s' := by unfold lkr at *; rw [up_ne (by omega), wsv_out (by unfold svp; omega)] at hlk; exact hlk
    by_cases ek : s' = s ∧ k' = c
    · obtain ⟨rfl, rfl⟩ := ek
      obtain ⟨b1, b2⟩ := hsv x hx hlk'
      have hl : lbs w (nI s') (pl π x) = true := by unfold lbs; rw [hO.la hx, hlk']; simp
      rw [h2, b1, up_ne (by unfold svp; omega), wsv_f hj4, hl]
      refine ⟨rfl, fun _ f hf => ?_⟩
      rw [up_ne (by unfold svp; omega), wsv_v hj4 hf]
      exact b2 f hf
    · have hsv2 : nI k' < w (1149 + 27 * s' + 3) := by
        by_cases c1 : s' = s
        · rw [c1, up_eq, nI_ltI (by omega) (by omega)] at hsv'
          rw [c1, hcn]; exact nI_lt (by omega) (by omega)
        · rw [up_ne (by omega), wsv_out (by unfold svp; omega)] at hsv'; exact hsv'
      obtain ⟨b1, b2⟩ := (hT1.job x hx).2 s' k' hs' hk' hlk' hsv2
      have eo : ∀ y, y < 23 → va_up (wsv s c w 24) (1149 + 27 * s + 3) (nI (c + 1)) (svp s' k' (pl π x) + y) = w (svp s' k' (pl π x) + y) := fun y hy => by
        rw [up_ne (by unfold svp; omega), wsv_out (by unfold svp; omega)]
      refine ⟨by rw [show svp s' k' (pl π x) = svp s' k' (pl π x) + 0 from rfl, eo 0 (by omega)]; exact b1, fun z f hf => ?_⟩
      rw [Nat.add_assoc (svp s' k' (pl π x)) 1 f, eo (1 + f) (by omega), ← Nat.add_assoc]
      exact b2 z f hf
  | succ r ih =>
    intro i m S1 hi hm hT1 hK h2 h24 hsv
    obtain ⟨m, rfl⟩ : ∃ q, m = q + 1 := ⟨m - 1, by omega⟩
    have hil : i < π.length := by omega
    have hlt : ¬ nI π.length ≤ nI i := nI_ge hil (by omega)
    have c4 : S1.1 24 (4 * t + s) 4 = nI c := (hT1.ses s hs).2.2.2.1.trans hcn
    simp only [B_X6_keepSavepoint_9_s, Bb_X6_keepSavepoint_9, B_X6_keepSavepoint_43, hT1.size, hlt, false_implies, true_and, not_false_eq_true, true_implies]
    rw [ix_n (by omega) (by omega), x_isLockedBy hT1 hil, mine_lbs (hO.la hil) (by omega), c4]
    simp only [b2i_0, Bool.not_eq_false, forall_eq, nI_1]
    refine ⟨fun q => ?_, fun q => ?_⟩
    · refine ih (i + 1) m S1 (by omega) (by omega) hT1 hK h2 h24 (fun x hx hl => ?_)
      by_cases e : x = i
      · have : lbs w (nI s) (pl π i) = true := by unfold lbs; rw [hO.la hil, ← e, hl]; simp
        rw [q] at this; exact absurd this (by decide)
      · exact hsv x (by omega) hl
    · have hlk : lkr w (pl π i) = nI s := by unfold lbs at q; simp only [Bool.and_eq_true, decide_eq_true_eq] at q; exact q.2
      refine x_saveAt1 hT1 hO hn hW.hnp.1 hW.hnl.1 hil hs hlk hc hcn (fun S' q1 q2 q3 q4 q5 q6 q7 => ?_)
      refine ih (i + 1) m S' (by omega) (by omega) q1 (hK.tr q2) (q3.trans h2) (q4.trans h24) (fun x hx hl => ?_)
      rw [h2] at q5 q6 q7
      by_cases e : x = i
      · rw [e]; exact ⟨q5, q6⟩
      · obtain ⟨b1, b2⟩ := hsv x (by omega) hl
        have hne : S.2 14 t x ≠ S.2 14 t i := fun z => e (hT.ref.2 x i (by omega) (by omega) z)
        refine ⟨by rw [← b1]; unfold svb; rw [q7 _ _ (by omega) (by omega)], fun f hf => ?_⟩
        rw [cJ.c (q7 _ _ (by omega) (by omega)) (q7 _ _ (by omega) (by omega))]
        exact b2 f hf
theorem WS.save (h : WS w ns) (hW : WF w ns np cm nl) {s c : Nat} (hss : s < ns) (hc : c < 4) (hcn : w (1149 + 27 * s + 3) = nI c) : WS (va_up (wsv s c w 24) (1149 + 27 * s + 3) (nI (c + 1))) ns := by
  have hn := hW.hns.1
  intro s' k j hs' hk hj hsv hf
  have e0 : ∀ x, x < 1149 → va_up (wsv s c w 24) (1149 + 27 * s + 3) (nI (c + 1)) x = w x := fun x hx => by rw [up_ne (by omega), wsv_out (by unfold svp; omega)]
  have eo : ∀ k' y, ¬ (s' = s ∧ k' = c) → k' < 4 → y < 23 → va_up (wsv s c w 24) (1149 + 27 * s + 3) (nI (c + 1)) (svp s' k' j + y) = w (svp s' k' j + y) := fun k' y q1 q2 hy => by
    rw [up_ne (by unfold svp; omega), wsv_out (by unfold svp; omega)]
  have lo : ∀ k', ¬ (s' = s ∧ k' = c) → nI k' < va_up (wsv s c w 24) (1149 + 27 * s + 3) (nI (c + 1)) (1149 + 27 * s' + 3) → k' < 4 → nI k' < w (1149 + 27 * s' + 3) := by
    intro k' q0 q hk'
    by_cases c1 : s' = s
    · rw [c1, up_eq, nI_ltI (by omega) (by omega)] at q
      rw [c1, hcn]; exact nI_lt (by omega) (by omega)
    · rw [up_ne (by omega), wsv_out (by unfold svp; omega)] at q; exact q
  have goal : ∀ {P : Prop}, lie w j = true → lkr w j = nI s' → P → lie (va_up (wsv s c w 24) (1149 + 27 * s + 3) (nI (c + 1))) j = true ∧ lkr (va_up (wsv s c w 24) (1149 + 27 * s + 3) (nI (c + 1))) j = nI s' ∧ P := fun a b p => ⟨by unfold lie num at *; rw [e0 _ (by omega)]; exact a, by unfold lkr at *; rw [e0 _ (by omega)]; exact b, p⟩
  have flag1 : s' = s → lbs w (nI s) j = true → va_up (wsv s c w 24) (1149 + 27 * s + 3) (nI (c + 1)) (svp s' c j) = 1 := fun q1 q2 => by
    rw [q1, up_ne (by unfold svp; omega), wsv_f hj, q2]; rfl
  by_cases ek : s' = s ∧ k = c
  · obtain ⟨rfl, rfl⟩ := ek
    rw [up_ne (by unfold svp; omega), wsv_f hj] at hf
    have hl : lbs w (nI s') j = true := by
      cases z : lbs w (nI s') j
      · rw [z] at hf; exact absurd hf (by decide)
      · rfl
    have hl2 := hl
    unfold lbs at hl2
    simp only [Bool.and_eq_true, decide_eq_true_eq] at hl2
    refine goal hl2.1 hl2.2 ⟨?_, fun k' q1 q2 q3 => ?_⟩
    · exact (hW.vown hj hl2.1 (by rw [hl2.2]; exact ni_m1 (by omega))).c (fun f hf => by rw [up_ne (by unfold svp; omega), wsv_v hj hf])
    · rw [up_eq, nI_ltI (by omega) (by omega)] at q3
      rw [show k' = k from by omega]
      exact flag1 rfl hl
  · have ef := eo k 0 ek hk (by omega)
    rw [Nat.add_zero] at ef
    have hf : w (svp s' k j) = 1 := ef.symm.trans hf
    obtain ⟨g1, g2, gv, gm⟩ := h s' k j hs' hk hj (lo k ek hsv hk) hf
    refine goal g1 g2 ⟨gv.c (fun f hf => by rw [Nat.add_assoc (svp s' k j) 1 f, eo k (1 + f) ek hk (by omega)]), fun k' q1 q2 q3 => ?_⟩
    by_cases ek' : s' = s ∧ k' = c
    · rw [ek'.2]
      exact flag1 ek'.1 (by unfold lbs; rw [g1, g2, ek'.1]; simp)
    · have : va_up (wsv s c w 24) (1149 + 27 * s + 3) (nI (c + 1)) (svp s' k' j) = w (svp s' k' j) := eo k' 0 ek' q2 (by omega)
      rw [this]
      exact gm k' q1 q2 (lo k' ek' q3 q2)
theorem cs_7 (h : Inv n Sc Sm) {a1 a2 a3 a4 a5 : Int32} {o : Int64} : CS_7 a1 a2 a3 a4 a5 Sc Sm o (fun S1 S2 _ => Inv (n + 1) S1 S2) := by
  obtain ⟨l, sp, π, ns, np, cm, nl, hR, hB, hc⟩ := h
  obtain ⟨w, hw⟩ : ∃ w, w = Sm.1 1 0 := ⟨_, rfl⟩
  have hs : Sm = sw Sm w := by rw [hw, sw_s]
  rw [← hw] at hB
  have hW := hB.2.2.1
  have hn := hW.hns.1
  have m0 : MK Sm (uI Sm 0 0 0 0) := MK.rfl.f (by omega)
  show FW_save a1 Sc o (fun r1 S2 o3 => F_X12_save a1 Sm (tl n r1 S2 o3))
  unfold FW_save F_X11_save
  refine x_needSession hR.2.1 hB (fun s hs' ha => ?_) (fun hno => ⟨fun _ => ?_, fun q => absurd rfl q⟩)
  · obtain ⟨s1, s2, s3, s4, s5⟩ := hB.1.ses s hs'
    obtain ⟨o1, ⟨cnt, hc4, hcn, -⟩, -⟩ := hW.ses s hs'
    rw [ha, hR.2.1, ix_n (by omega) (by omega), s3, s4, hcn]
    have open1 : w (1149 + 27 * s + 2) ≠ 0 → opn w s = true := fun q => by unfold opn; rw [o1.resolve_left q]; rfl
    have start : ∀ {kk : Int32 → sSt → Prop}, ((opn w s = false → B_X12_save_46 (nI s) 1 (sw (uI Sm 0 0 0 0) w) kk) ∧ (opn w s = true → (¬ nI cnt = 4 → B_X12_save_46 (nI s) 0 (sw (uI Sm 0 0 0 0) w) kk) ∧ (nI cnt = 4 → B_X12_save_46 (nI s) 1 (sw (uI Sm 0 0 0 0) w) kk))) → F_X12_save (nI s) Sm kk := by
      intro kk hq
      rw [hs, F_X12_save]
      rintro S1 rfl
      rw [sw_c (by omega)]
      refine m_needS' (fun q => absurd (hasS_of hW hs') (by rw [q]; decide)) (fun _ => ?_)
      rw [m_isOpen (by omega), sw_w, m_sessAt3, ix_n (by omega) (by omega), sw_w, hcn]
      simp only [b2i_0, Bool.not_eq_false, B_X12_save_41]
      exact hq
    have ref : ∀ {o : Int64}, B_X12_save_46 (nI s) 1 (sw (uI Sm 0 0 0 0) w) (tl n 2 (uI Sc 0 0 7 1) o) := fun {o} => by
      rw [B_X12_save_46, m_refuses, if_neg (by decide)]
      exact ⟨fun q => absurd q (by decide), fun _ => tl_ex uI_at (by decide) (inv_why hR hB hc mk_refuse)⟩
    have n4 : ((4 : Int32) ≤ nI cnt) ↔ nI cnt = 4 := by
      rw [show (4 : Int32) = nI 4 from rfl, nI_leI (by omega) (by omega), nI_eq (by omega) (by omega)]; omega
    refine ⟨fun c => ?_, fun c => ⟨fun c1 => ?_, fun c1 => ?_⟩⟩
    · rw [B_X11_save_35, B_X11_save_36, F_X11_settle]
      rintro S1 rfl
      refine ⟨fun q => absurd q (by decide), fun _ => ⟨fun q => absurd q (by decide), fun _ => ⟨fun _ => ?_, fun q => absurd rfl q⟩⟩⟩
      show F_X12_save (nI s) Sm (tl n 2 (uI Sc 0 0 7 1) _)
      exact start ⟨fun _ => ref, fun z => by unfold opn at z; rw [c] at z; exact absurd z (by decide)⟩
    · rw [B_X11_save_35, B_X11_save_36, F_X11_settle]
      rintro S1 rfl
      refine ⟨fun q => absurd q (by decide), fun _ => ⟨fun q => absurd q (by decide), fun _ => ⟨fun _ => ?_, fun q => absurd rfl q⟩⟩⟩
      show F_X12_save (nI s) Sm (tl n 2 (uI Sc 0 0 7 1) _)
      exact start ⟨fun z => (by rw [open1 c] at z; exact absurd z (by decide)), fun _ => ⟨fun z => absurd (n4.mp c1) z, fun _ => ref⟩⟩
    · have hc3 : cnt < 4 := by
        rcases (show cnt = 4 ∨ cnt < 4 by omega) with q | q
        · exact absurd (by rw [q]; rfl) (fun z => c1 (n4.mpr z))
        · exact q
      rw [B_X11_save_36, F_X11_settle]
      rintro S1 rfl
      refine ⟨fun _ => ?_, fun q => absurd rfl q⟩
      rw [show (uI Sc 0 0 7 0).2 0 0 4 = l from hR.2.1]
      refine x_keepSavepoint (hB.f0 (f := 7) (v := 0)) hs' (o1.resolve_left c) hc3 hcn (fun S' hC hK h4 => ?_)
      rw [h4, show nI (cnt + 1) - 1 = nI cnt from by rw [show (1 : Int32) = nI 1 from rfl, pk_sub (by omega)]; rfl]
      show F_X12_save (nI s) Sm (tl n 0 S' _)
      refine start ⟨fun z => (by rw [open1 c] at z; exact absurd z (by decide)), fun _ => ⟨fun _ => ?_, fun z => absurd (n4.mpr z) c1⟩⟩
      rw [B_X12_save_46, m_refuses, if_pos rfl]
      refine ⟨fun _ => ?_, fun q => absurd rfl q⟩
      rw [m_sessAt3, ix_n (by omega) (by omega), forall_eq, sw_w, hcn]
      refine m_save68 (by omega) hc3 ?_
      exact tl_ok (by rw [uI_nc (by omega)]; exact uI_at) (inv_upd (hR.why 0) ⟨hC.1, hC.2.1, hC.2.2, hB.2.2.2.save hW hs' hc3 hcn⟩ (c_le hc) hK (by rw [hK.2 14 sp (by have := hR.1; omega)]) mk_well) rfl
  · show F_X12_save a1 Sm (tl n 1 Sc o)
    rw [hs, F_X12_save]
    rintro S1 rfl
    rw [sw_c (by omega)]
    exact m_needS' (fun _ S' g1 g2 => tl_ex g1 (by decide) (inv_same hR hB hc (m0.tr g2))) (fun q => absurd hno (by rw [q]; decide))
end CS
end PU37
