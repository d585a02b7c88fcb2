section PU19
/-! A JOB THAT A SESSION HOLDS: both sides ask alike -/
/-- why a session cannot do something with what it holds -/
def whyH (w : Wd) (j : Nat) (s tok : Int32) : Int32 := if oth w j s then 2 else if w (ver w j s + 3) = 1 then (if w (ver w j s + 8) = tok then (if w (ver w j s + 9) = s then (if w 3 ≤ w (ver w j s + 10) then 0 else 4) else 3) else 3) else 3
section HM
variable {S : sSt} {w : Wd} {ns np cm nl : Nat}
theorem th_at {v : Int32} : (uI S 0 0 0 v).1 0 0 0 = v := uI_at
theorem m_jobFor (hW : WF w ns np cm nl) {a n : Int32} {k : Int32 → sSt → Prop} (h1 : ∀ j, j < 24 → num w j = n → sees w j a = true → (a = -1 ∨ hasS w a = true) → k (nI j) (sw (uI S 0 0 0 0) w)) (h0 : ((∀ j, j < 24 → num w j = n → sees w j a = false) ∨ (a ≠ -1 ∧ hasS w a = false)) → ∀ S', S'.1 0 0 0 = 1 → MK S S' → k (-1) (sw S' w)) : F_X12_jobFor a n (sw S w) k := by
  have e0 : ∀ {b : Bool} {x : Int32} {S1 : sSt} {k : Int32 → sSt → Prop}, B_X12_jobFor_57 x (b2i b) (sw S1 w) k ↔ (if b then k (-1) (sw (uI S1 0 0 0 1) w) else k x (sw S1 w)) := by
    intro b x S1 k
    rw [B_X12_jobFor_57, m_throwsIf]
    cases b
    · simp [b2i]
    · simp [b2i, sw_c]
  have e44 : ∀ {b : Bool} {x : Int32} {S1 : sSt} {k : Int32 → sSt → Prop}, B_X12_jobFor_44 x (b2i b) (sw S1 w) k ↔ (if b then k x (sw S1 w) else k (-1) (sw (uI S1 0 0 0 1) w)) := by
    intro b x S1 k
    rw [B_X12_jobFor_44]
    have a0 := @e0 false x S1 k
    have a1 := @e0 true x S1 k
    rw [b2i_f] at a0
    rw [b2i_t] at a1
    rw [a0, a1]
    cases b <;> simp [b2i]
  have e44_0 : ∀ {x : Int32} {S1 : sSt} {k : Int32 → sSt → Prop}, B_X12_jobFor_44 x 0 (sw S1 w) k ↔ k (-1) (sw (uI S1 0 0 0 1) w) := fun {x S1 k} => by
    have := @e44 false x S1 k; rw [b2i_f] at this; simpa using this
  have e44_1 : ∀ {x : Int32} {S1 : sSt} {k : Int32 → sSt → Prop}, B_X12_jobFor_44 x 1 (sw S1 w) k ↔ k x (sw S1 w) := fun {x S1 k} => by
    have := @e44 true x S1 k; rw [b2i_t] at this; simpa using this
  have m1 : MK S (uI (uI S 0 0 0 0) 0 0 0 1) := (MK.rfl.f (by omega)).f (by omega)
  rw [F_X12_jobFor]
  rintro S1 rfl
  rw [sw_c (by omega)]
  refine m_jobOf hW (fun j hj hn hl => ?_) (fun hno => ?_)
  · simp only [ni_m1 (show j < 2147483648 by omega), false_implies, not_false_eq_true, true_implies, true_and, B_X12_jobFor_43, B_X12_jobFor_29, m_seen hj, sw_w, m_noSession, e44_0, e44_1, b2i_0, Bool.not_eq_false]
    have q29 : (a = -1 ∨ hasS w a = true) → (seeI w j a = -1 → k (-1) (sw (uI (uI S 0 0 0 0) 0 0 0 1) w)) ∧ (¬ seeI w j a = -1 → k (nI j) (sw (uI S 0 0 0 0) w)) := by
      intro ha
      have hv := ver_lt (w := w) (s := a) hj
      unfold seeI
      cases c : sees w j a
      · refine ⟨fun _ => h0 (Or.inl (fun j' hj' hn' => ?_)) _ th_at m1, fun q => absurd rfl q⟩
        have : j' = j := (hW.one j j' hj hj' hl (by rw [hn, hn'])).symm
        rw [this]; exact c
      · refine ⟨fun q => absurd q (ni_m1 (by omega)), fun _ => h1 j hj hn c ha⟩
    refine ⟨fun c => q29 (Or.inl c), fun c => ⟨fun c2 => ?_, fun c2 => q29 (Or.inr (by simpa using c2))⟩⟩
    exact h0 (Or.inr ⟨c, by simpa using c2⟩) _ th_at m1
  · simp only [true_implies, not_true_eq_false, false_implies, and_true, B_X12_jobFor_43, e44_0]
    refine h0 (Or.inl (fun j hj hn => ?_)) _ th_at m1
    have := hno j hj hn
    unfold sees; rw [this]; rfl
theorem hasS_m1 : hasS w (-1) = false := by unfold hasS; simp
theorem m_ownJobFor (hW : WF w ns np cm nl) {a n : Int32} {k : Int32 → sSt → Prop} (h1 : ∀ j s, j < 24 → s < ns → a = nI s → num w j = n → sees w j (nI s) = true → k (nI j) (sw (uI S 0 0 0 0) w)) (h0 : ((∀ j, j < 24 → num w j = n → sees w j a = false) ∨ hasS w a = false) → ∀ S', S'.1 0 0 0 = 1 → MK S S' → k (-1) (sw S' w)) : F_X12_ownJobFor a n (sw S w) k := by
  rw [F_X12_ownJobFor]
  have e0 : ∀ {b : Bool} {x : Int32} {S1 : sSt} {k : Int32 → sSt → Prop}, B_X12_ownJobFor_18 x (b2i b) (sw S1 w) k ↔ (if b then k (-1) (sw (uI S1 0 0 0 1) w) else k x (sw S1 w)) := by
    intro b x S1 k
    rw [B_X12_ownJobFor_18, m_throwsIf]
    cases b
    · simp [b2i]
    · simp [b2i, sw_c]
  have e00 : ∀ {x : Int32} {S1 : sSt} {k : Int32 → sSt → Prop}, B_X12_ownJobFor_18 x 0 (sw S1 w) k ↔ k x (sw S1 w) := fun {x S1 k} => by
    have := @e0 false x S1 k; rw [b2i_f] at this; simpa using this
  have e01 : ∀ {x : Int32} {S1 : sSt} {k : Int32 → sSt → Prop}, B_X12_ownJobFor_18 x 1 (sw S1 w) k ↔ k (-1) (sw (uI S1 0 0 0 1) w) := fun {x S1 k} => by
    have := @e0 true x S1 k; rw [b2i_t] at this; simpa using this
  refine m_jobFor hW (fun j hj hn hs ha => ?_) (fun hno S' g1 g2 => ?_)
  · rw [e00, e01]
    refine ⟨fun c => ?_, fun c => ?_⟩
    · obtain ⟨s, s1, s2⟩ := hasS_is hW (ha.resolve_left c)
      exact h1 j s hj s1 s2 hn (by rw [← s2]; exact hs)
    · exact h0 (Or.inr (by rw [c]; exact hasS_m1)) _ th_at ((MK.rfl.f (by omega)).f (by omega))
  · rw [e00, e01]
    have hq : (∀ j, j < 24 → num w j = n → sees w j a = false) ∨ hasS w a = false := by
      rcases hno with q | q
      · exact Or.inl q
      · exact Or.inr q.2
    exact ⟨fun _ => h0 hq S' g1 g2, fun _ => h0 hq _ th_at (g2.f (by omega))⟩
theorem m_bars {j : Nat} (hW : WF w ns np cm nl) (hj : j < 24) (hl : lie w j = true) {s tok : Int32} {k : Int32 → sSt → Prop} : F_X12_bars (nI j) s tok (sw S w) k ↔ k (whyH w j s tok) (sw S w) := by
  have hv := ver_lt (w := w) (s := s) hj
  rw [F_X12_bars, m_isOthers hj, m_seen hj, sw_w]
  unfold whyH
  cases c : oth w j s
  · have hs := see_or hW hj hl c
    simp only [b2i_f, true_implies, not_true_eq_false, false_implies, and_true, seeI, hs, if_true, na_3, na_8, na_9, na_10]
    simp only [ix_n (show ver w j s + 3 < 10421 by omega) (show 10421 ≤ 2147483648 by omega), ix_n (show ver w j s + 8 < 10421 by omega) (show 10421 ≤ 2147483648 by omega), ix_n (show ver w j s + 9 < 10421 by omega) (show 10421 ≤ 2147483648 by omega), ix_n (show ver w j s + 10 < 10421 by omega) (show 10421 ≤ 2147483648 by omega), sw_w, cdi, cdn]
    by_cases c1 : w (ver w j s + 3) = 1 <;> by_cases c2 : w (ver w j s + 8) = tok <;> by_cases c3 : w (ver w j s + 9) = s <;> by_cases c4 : w 3 ≤ w (ver w j s + 10) <;> simp [c1, c2, c3, c4, -Int32.not_le]
  · simp [b2i]
theorem m_refuses {r c : Int32} {k : Int32 → sSt → Prop} : F_X12_refuses r c (sw S w) k ↔ (if r = 0 then k 0 (sw (uI S 0 0 1 r) w) else k 1 (sw (uI (uI S 0 0 1 r) 0 0 0 c) w)) := by
  rw [F_X12_refuses, forall_eq, sw_c (by omega)]
  have a0 := @m_throwsIf (sw (uI S 0 0 1 r) w) false c (fun r3 S4 => bz r3 (k r3 S4))
  have a1 := @m_throwsIf (sw (uI S 0 0 1 r) w) true c (fun r3 S4 => bz r3 (k r3 S4))
  rw [b2i_f] at a0
  rw [b2i_t] at a1
  rw [B_X12_refuses_15, B_X12_refuses_15, a0, a1]
  by_cases h : r = 0 <;> simp [h, bz_0, bz_1, sw_c]
/-- the model's head of what is done with a job that is held -/
theorem m_held (hW : WF w ns np cm nl) {a n tok : Int32} {k0 k1 : sSt → Prop} {kb : Int32 → sSt → Prop} (h0 : ((∀ j, j < 24 → num w j = n → sees w j a = false) ∨ hasS w a = false) → ∀ S', S'.1 0 0 0 = 1 → MK S S' → k0 (sw S' w)) (h2 : ∀ j s, j < 24 → s < ns → a = nI s → num w j = n → sees w j (nI s) = true → whyH w j (nI s) tok ≠ 0 → ∀ S', S'.1 0 0 0 = 2 → MK (uI S 0 0 1 (whyH w j (nI s) tok)) S' → k1 (sw S' w)) (h1 : ∀ j s, j < 24 → s < ns → a = nI s → num w j = n → sees w j (nI s) = true → whyH w j (nI s) tok = 0 → ∀ S', S'.1 0 0 0 = 0 → MK (uI S 0 0 1 0) S' → kb (nI j) (sw S' w)) :
    F_X12_ownJobFor a n (sw S w) (fun r1 S2 => ((r1 = (-1) → k0 S2) ∧ (¬ r1 = (-1) → F_X12_bars r1 a tok S2 (fun r4 S5 => F_X12_refuses r4 2 S5 (fun r6 S7 => ((r6 = 0 → kb r1 S7) ∧ (¬ r6 = 0 → k1 S7))))))) := by
  refine m_ownJobFor hW (fun j s hj hs ha hn hse => ?_) (fun hno S' g1 g2 => ⟨fun _ => h0 hno S' g1 g2, fun q => absurd rfl q⟩)
  refine ⟨fun q => absurd q (ni_m1 (by omega)), fun _ => ?_⟩
  rw [ha, m_bars hW hj (sees_lie hse), m_refuses]
  by_cases c : whyH w j (nI s) tok = 0
  · rw [if_pos c, c]
    refine ⟨fun _ => h1 j s hj hs ha hn hse c _ ?_ ?_, fun q => absurd rfl q⟩
    · rw [uI_nc (by omega), uI_at]
    · refine ⟨fun f _ _ _ _ => ?_, ?_, ?_⟩
      · by_cases e : f = 1
        · rw [e, uI_at, uI_at]
        · rw [uI_nc (by omega), uI_nc (by omega), uI_nc (by omega)]
      · rw [uI_other (by omega), uI_other (by omega), uI_other (by omega)]
      · rw [uI_other (by omega), uI_other (by omega), uI_other (by omega)]
  · rw [if_neg c]
    refine ⟨fun q => absurd q (by decide), fun _ => h2 j s hj hs ha hn hse c _ uI_at ?_⟩
    refine ⟨fun f _ _ _ _ => ?_, ?_, ?_⟩
    · rw [uI_nc (by omega)]
      by_cases e : f = 1
      · rw [e, uI_at, uI_at]
      · rw [uI_nc (by omega), uI_nc (by omega), uI_nc (by omega)]
    · rw [uI_other (by omega), uI_other (by omega), uI_other (by omega), uI_other (by omega)]
    · rw [uI_other (by omega), uI_other (by omega), uI_other (by omega), uI_other (by omega)]
end HM
section HX
variable {Sc : sSt} {l : Nat} {w : Wd} {π : List Nat} {ns np cm nl i : Nat}
theorem x_whyNotHeld (hl : Sc.2 0 0 4 = l) (h : zB Sc l w π ns np cm nl) (hi : i < π.length) {s tok : Int32} {k : Int32 → sSt → Prop} : F_X11_whyNotHeld (Sc.2 14 l i) s tok Sc k ↔ k (whyH w (pl π i) s tok) Sc := by
  rw [F_X11_whyNotHeld, x_seenBy h.1 hi, x_isLockedByOther h.1 hi, hl]
  unfold whyH
  have hm : Sc.1 13 l 10 = w 3 := h.1.sca.1 3 (by omega)
  rw [hm]
  cases c : oth w (pl π i) s
  · have hv := x_ver h.1 hi (see_or h.2.2.1 (h.2.1.at hi) (h.2.1.la hi) c)
    have h3 : Sc.1 22 (cver (Sc.2 14 l i) w (pl π i) s) 0 = _ := hv 3 (by omega)
    have h8 : Sc.1 22 (cver (Sc.2 14 l i) w (pl π i) s) 5 = _ := hv 8 (by omega)
    have h9 : Sc.1 22 (cver (Sc.2 14 l i) w (pl π i) s) 6 = _ := hv 9 (by omega)
    have h10 : Sc.1 22 (cver (Sc.2 14 l i) w (pl π i) s) 7 = _ := hv 10 (by omega)
    rw [h3, h8, h9, h10]
    by_cases c1 : w (ver w (pl π i) s + 3) = 1 <;> by_cases c2 : w (ver w (pl π i) s + 8) = tok <;> by_cases c3 : w (ver w (pl π i) s + 9) = s <;> by_cases c4 : w 3 ≤ w (ver w (pl π i) s + 10) <;> simp [c1, c2, c3, c4, b2i, -Int32.not_le]
  · simp [b2i]
theorem whyH_oth {j : Nat} {s tok : Int32} (h : whyH w j s tok = 0) : oth w j s = false ∧ w (ver w j s + 3) = 1 := by
  unfold whyH at h
  cases c : oth w j s
  · rw [c] at h
    refine ⟨rfl, ?_⟩
    by_cases c1 : w (ver w j s + 3) = 1
    · exact c1
    · rw [if_neg c1] at h; exact absurd h (by decide)
  · rw [c, if_pos rfl] at h; exact absurd h (by decide)
theorem x_lockHeld (hl : Sc.2 0 0 4 = l) (h : zB Sc l w π ns np cm nl) {a n tok : Int32} {k : Nat → sSt → Prop} {kx : String → sSt → Prop} (h0 : ((∀ j, j < 24 → num w j = n → sees w j a = false) ∨ hasS w a = false) → kx "java/lang/IndexOutOfBoundsException" Sc) (h2 : ∀ i s, i < π.length → s < ns → a = nI s → num w (pl π i) = n → sees w (pl π i) (nI s) = true → whyH w (pl π i) (nI s) tok ≠ 0 → kx "java/lang/IllegalStateException" (uI Sc 0 0 7 (whyH w (pl π i) (nI s) tok))) (h1 : ∀ i s, i < π.length → s < ns → a = nI s → num w (pl π i) = n → sees w (pl π i) (nI s) = true → whyH w (pl π i) (nI s) tok = 0 → ∀ S', zQ (uI Sc 0 0 7 0) S' l (wlk w (pl π i) (nI s)) π ns np cm nl i → k (6 * Sc.2 14 l i + 1) S') : F_X11_lockHeld a n tok Sc k kx := by
  rw [F_X11_lockHeld]
  refine x_needSession hl h (fun s hs ha => ?_) (fun q => h0 (Or.inr q))
  refine x_needJob hl h (fun i hi hn hse => ?_) (fun q => h0 (Or.inl q))
  rw [ha] at hse
  rw [ha, x_whyNotHeld hl h hi, F_X11_settle]
  rintro S1 rfl
  refine ⟨fun c => ?_, fun c => h2 i s hi hs ha hn hse c⟩
  rw [c]
  have := (h.f0 (f := 7) (v := 0)).lockFor hi hs (whyH_oth c).1 (k := fun r9 S10 => k r9 S10) (fun S' hq => h1 i s hi hs ha hn hse c S' hq)
  exact this
end HX
end PU19
