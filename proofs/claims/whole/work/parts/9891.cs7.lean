section PU29
/-! CALLS: count, session, begin -/
section CS
variable {Sc Sc' Sm S' S : sSt} {l sp n : Nat} {w w' : Wd} {π π' : List Nat} {ns np cm nl ns' np' cm' nl' : Nat}
def tq (n : Nat) (S2 : sSt) (r1 r3 : Int32) (S4 : sSt) : Prop := ((r1 = r3 → Inv (n + 1) S2 S4) ∧ (¬ r1 = r3 → False))
theorem tq_ok {r1 r3 : Int32} (hI : Inv (n + 1) Sc (sw S' w)) (h : r1 = r3) : tq n Sc r1 r3 (sw S' w) := ⟨fun _ => hI, fun q => q h⟩
theorem cs_44 (h : Inv n Sc Sm) {a1 a2 a3 a4 a5 : Int32} {o : Int64} : CS_44 a1 a2 a3 a4 a5 Sc Sm o (fun S1 S2 _ => Inv (n + 1) S1 S2) := by
  obtain ⟨l, sp, π, ns, np, cm, nl, hR, hB, hc⟩ := h
  obtain ⟨w, hw⟩ : ∃ w, w = Sm.1 1 0 := ⟨_, rfl⟩
  have hs : Sm = sw Sm w := by rw [hw, sw_s]
  rw [← hw] at hB
  have hW := hB.2.2.1
  have m0 : MK Sm (uI Sm 0 0 0 0) := MK.rfl.f (by omega)
  have hI := inv_same hR hB hc m0
  obtain ⟨x, hx, x1, x2, -⟩ := hB.1.log
  show F_X11_count a1 Sc (fun r1 S2 => F_X12_count a1 Sm (tq n S2 r1))
  -- the model's answer
  have good : ∀ v, (∀ f, f ≤ 17 → a1 = nI f → v = if f = 0 then nI ((List.range' 0 24).countP (isin w)) else if f = 1 then w 0 else if f = 2 then w 1 else if f = 3 then w 2 else if f < 10 then w (3 + f - 4) else if f = 10 then nI ((List.range' 0 ns).countP (opn w)) else if f = 11 then nI ((List.range' 0 24).countP (lckd w)) else if f < 17 then w (9 + f - 12) else w 14) → ((∀ f, f ≤ 17 → a1 ≠ nI f) → v = -1) → F_X12_count a1 Sm (tq n Sc v) := by
    intro v g1 g0
    rw [hs, F_X12_count]
    rintro S1 rfl
    rw [sw_c (by omega), m_cnt98, m_cnt156, m_opened hW, sw_w]
    by_cases hin : ∃ f, f ≤ 17 ∧ a1 = nI f
    · obtain ⟨f, f1, f2⟩ := hin
      have gv := g1 f f1 f2
      rw [f2]
      have t9 : ∀ f, 4 ≤ f → f ≤ 9 → (F_X12_in (nI f) 4 9 (sw (uI Sm 0 0 0 0) w) (fun r13 S14 => ((r13 = 0 → F_X12_in (nI f) 12 16 S14 (fun r16 S17 => ((r16 = 0 → tq n Sc v (-1) S17) ∧ (¬ r16 = 0 → ix ((9 + nI f) - 12) 10421 (fun j19 => tq n Sc v (S17.1 1 0 j19) S17))))) ∧ (¬ r13 = 0 → ix ((3 + nI f) - 4) 10421 (fun j20 => tq n Sc v (S14.1 1 0 j20) S14)))) ↔ tq n Sc v (w (3 + f - 4)) (sw (uI Sm 0 0 0 0) w)) := by
        intro f q1 q2
        rw [m_in, in_b.mpr ⟨by rw [show (4 : Int32) = nI 4 from rfl]; exact nI_nlt q1 (by omega), by rw [show (9 : Int32) = nI 9 from rfl]; exact nI_nlt q2 (by omega)⟩]
        rw [show (3 : Int32) + nI f - 4 = nI (3 + f - 4) from by rw [show (3 : Int32) = nI 3 from rfl, show (4 : Int32) = nI 4 from rfl, nI_add, pk_sub (by omega)]]
        simp only [b2i_t, show ¬ ((1 : Int32) = 0) from by decide, false_implies, true_and, not_false_eq_true, true_implies]
        rw [ix_n (by omega) (by omega), sw_w]
      have t16 : ∀ f, 12 ≤ f → f ≤ 16 → (F_X12_in (nI f) 4 9 (sw (uI Sm 0 0 0 0) w) (fun r13 S14 => ((r13 = 0 → F_X12_in (nI f) 12 16 S14 (fun r16 S17 => ((r16 = 0 → tq n Sc v (-1) S17) ∧ (¬ r16 = 0 → ix ((9 + nI f) - 12) 10421 (fun j19 => tq n Sc v (S17.1 1 0 j19) S17))))) ∧ (¬ r13 = 0 → ix ((3 + nI f) - 4) 10421 (fun j20 => tq n Sc v (S14.1 1 0 j20) S14)))) ↔ tq n Sc v (w (9 + f - 12)) (sw (uI Sm 0 0 0 0) w)) := by
        intro f q1 q2
        have e1 : (!(decide (nI f < 4) || decide (9 < nI f))) = false := by
          have : (9 : Int32) < nI f := nI_lt (a := 9) (by omega) (by omega)
          simp [this]
        rw [m_in, e1, m_in, in_b.mpr ⟨by rw [show (12 : Int32) = nI 12 from rfl]; exact nI_nlt q1 (by omega), by rw [show (16 : Int32) = nI 16 from rfl]; exact nI_nlt q2 (by omega)⟩]
        rw [show (9 : Int32) + nI f - 12 = nI (9 + f - 12) from by rw [show (9 : Int32) = nI 9 from rfl, show (12 : Int32) = nI 12 from rfl, nI_add, pk_sub (by omega)]]
        simp only [b2i_t, b2i_f, show ¬ ((1 : Int32) = 0) from by decide, false_implies, true_and, not_false_eq_true, true_implies, not_true_eq_false, and_true]
        rw [ix_n (by omega) (by omega), sw_w]
      have key : ∀ y, v = y → tq n Sc v y (sw (uI Sm 0 0 0 0) w) := fun y q => tq_ok hI q
      rcases (show f = 0 ∨ f = 1 ∨ f = 2 ∨ f = 3 ∨ f = 10 ∨ f = 11 ∨ f = 17 ∨ (4 ≤ f ∧ f ≤ 9) ∨ (12 ≤ f ∧ f ≤ 16) by omega) with rfl | rfl | rfl | rfl | rfl | rfl | rfl | q | q
      · exact ⟨fun _ => key _ gv, fun q => absurd rfl q⟩
      · exact ⟨fun q => absurd q (by decide), fun _ => ⟨fun _ => key _ gv, fun q => absurd rfl q⟩⟩
      · exact ⟨fun q => absurd q (by decide), fun _ => ⟨fun q => absurd q (by decide), fun _ => ⟨fun _ => key _ gv, fun q => absurd rfl q⟩⟩⟩
      · exact ⟨fun q => absurd q (by decide), fun _ => ⟨fun q => absurd q (by decide), fun _ => ⟨fun q => absurd q (by decide), fun _ => ⟨fun _ => key _ gv, fun q => absurd rfl q⟩⟩⟩⟩
      · exact ⟨fun q => absurd q (by decide), fun _ => ⟨fun q => absurd q (by decide), fun _ => ⟨fun q => absurd q (by decide), fun _ => ⟨fun q => absurd q (by decide), fun _ => ⟨fun q => absurd q (by decide), fun _ => ⟨fun q => absurd q (by decide), fun _ => ⟨fun q => absurd q (by decide), fun _ => ⟨fun q => absurd q (by decide), fun _ => ⟨fun q => absurd q (by decide), fun _ => ⟨fun q => absurd q (by decide), fun _ => ⟨fun _ => key _ gv, fun q => absurd rfl q⟩⟩⟩⟩⟩⟩⟩⟩⟩⟩⟩
      · exact ⟨fun q => absurd q (by decide), fun _ => ⟨fun q => absurd q (by decide), fun _ => ⟨fun q => absurd q (by decide), fun _ => ⟨fun q => absurd q (by decide), fun _ => ⟨fun q => absurd q (by decide), fun _ => ⟨fun q => absurd q (by decide), fun _ => ⟨fun q => absurd q (by decide), fun _ => ⟨fun q => absurd q (by decide), fun _ => ⟨fun q => absurd q (by decide), fun _ => ⟨fun q => absurd q (by decide), fun _ => ⟨fun q => absurd q (by decide), fun _ => ⟨fun _ => key _ gv, fun q => absurd rfl q⟩⟩⟩⟩⟩⟩⟩⟩⟩⟩⟩⟩
      · exact ⟨fun q => absurd q (by decide), fun _ => ⟨fun q => absurd q (by decide), fun _ => ⟨fun q => absurd q (by decide), fun _ => ⟨fun q => absurd q (by decide), fun _ => ⟨fun q => absurd q (by decide), fun _ => ⟨fun q => absurd q (by decide), fun _ => ⟨fun q => absurd q (by decide), fun _ => ⟨fun q => absurd q (by decide), fun _ => ⟨fun q => absurd q (by decide), fun _ => ⟨fun q => absurd q (by decide), fun _ => ⟨fun q => absurd q (by decide), fun _ => ⟨fun q => absurd q (by decide), fun _ => ⟨fun q => absurd q (by decide), fun _ => ⟨fun q => absurd q (by decide), fun _ => ⟨fun q => absurd q (by decide), fun _ => ⟨fun q => absurd q (by decide), fun _ => ⟨fun q => absurd q (by decide), fun _ => ⟨fun _ => key _ gv, fun q => absurd rfl q⟩⟩⟩⟩⟩⟩⟩⟩⟩⟩⟩⟩⟩⟩⟩⟩⟩⟩
      · have gv' : v = w (3 + f - 4) := by rw [gv, if_neg (by omega), if_neg (by omega), if_neg (by omega), if_neg (by omega), if_pos (by omega)]
        have T := (t9 f q.1 q.2).mpr (key _ gv')
        have nn : ∀ y, y ≠ f → y < 100 → ¬ nI f = nI y := fun y q1 q2 z => q1 ((nI_eq (by omega) (by omega)).mp z).symm
        refine ⟨fun z => absurd z (nn 0 (by omega) (by omega)), fun _ => ⟨fun z => absurd z (nn 1 (by omega) (by omega)), fun _ => ⟨fun z => absurd z (nn 2 (by omega) (by omega)), fun _ => ⟨fun z => absurd z (nn 3 (by omega) (by omega)), fun _ => ⟨fun _ => T, fun _ => ⟨fun _ => T, fun _ => ⟨fun _ => T, fun _ => ⟨fun _ => T, fun _ => ⟨fun _ => T, fun _ => ⟨fun _ => T, fun _ => ⟨fun z => absurd z (nn 10 (by omega) (by omega)), fun _ => ⟨fun z => absurd z (nn 11 (by omega) (by omega)), fun _ => ⟨fun _ => T, fun _ => ⟨fun _ => T, fun _ => ⟨fun _ => T, fun _ => ⟨fun _ => T, fun _ => ⟨fun _ => T, fun _ => ⟨fun z => absurd z (nn 17 (by omega) (by omega)), fun _ => T⟩⟩⟩⟩⟩⟩⟩⟩⟩⟩⟩⟩⟩⟩⟩⟩⟩⟩
      · have gv' : v = w (9 + f - 12) := by rw [gv, if_neg (by omega), if_neg (by omega), if_neg (by omega), if_neg (by omega), if_neg (by omega), if_neg (by omega), if_neg (by omega), if_pos (by omega)]
        have T := (t16 f q.1 q.2).mpr (key _ gv')
        have nn : ∀ y, y ≠ f → y < 100 → ¬ nI f = nI y := fun y q1 q2 z => q1 ((nI_eq (by omega) (by omega)).mp z).symm
        refine ⟨fun z => absurd z (nn 0 (by omega) (by omega)), fun _ => ⟨fun z => absurd z (nn 1 (by omega) (by omega)), fun _ => ⟨fun z => absurd z (nn 2 (by omega) (by omega)), fun _ => ⟨fun z => absurd z (nn 3 (by omega) (by omega)), fun _ => ⟨fun _ => T, fun _ => ⟨fun _ => T, fun _ => ⟨fun _ => T, fun _ => ⟨fun _ => T, fun _ => ⟨fun _ => T, fun _ => ⟨fun _ => T, fun _ => ⟨fun z => absurd z (nn 10 (by omega) (by omega)), fun _ => ⟨fun z => absurd z (nn 11 (by omega) (by omega)), fun _ => ⟨fun _ => T, fun _ => ⟨fun _ => T, fun _ => ⟨fun _ => T, fun _ => ⟨fun _ => T, fun _ => ⟨fun _ => T, fun _ => ⟨fun z => absurd z (nn 17 (by omega) (by omega)), fun _ => T⟩⟩⟩⟩⟩⟩⟩⟩⟩⟩⟩⟩⟩⟩⟩⟩⟩⟩
    · have hno : ∀ f, f ≤ 17 → a1 ≠ nI f := fun f q1 q2 => hin ⟨f, q1, q2⟩
      have gv := g0 hno
      have T : (F_X12_in a1 4 9 (sw (uI Sm 0 0 0 0) w) (fun r13 S14 => ((r13 = 0 → F_X12_in a1 12 16 S14 (fun r16 S17 => ((r16 = 0 → tq n Sc v (-1) S17) ∧ (¬ r16 = 0 → ix ((9 + a1) - 12) 10421 (fun j19 => tq n Sc v (S17.1 1 0 j19) S17))))) ∧ (¬ r13 = 0 → ix ((3 + a1) - 4) 10421 (fun j20 => tq n Sc v (S14.1 1 0 j20) S14))))) := by
        have e : ∀ lo hi : Nat, lo ≤ hi → hi ≤ 17 → (!(decide (a1 < nI lo) || decide (nI hi < a1))) = false := by
          intro lo hi q1 q2
          cases c : (!(decide (a1 < nI lo) || decide (nI hi < a1)))
          · rfl
          · obtain ⟨c1, c2⟩ := in_b.mp c
            have c0 : ¬ a1 < 0 := fun z => c1 (Int32.lt_of_lt_of_le z (nI_pos' (by omega)))
            obtain ⟨y, y1, y2⟩ := nI_of c0
            rw [y2, nI_ltI (by omega) y1] at c2
            exact absurd y2 (hno y (by omega))
        rw [m_in, show (4 : Int32) = nI 4 from rfl, show (9 : Int32) = nI 9 from rfl, e 4 9 (by omega) (by omega)]
        refine ⟨fun _ => ?_, fun q => absurd rfl q⟩
        rw [m_in, show (12 : Int32) = nI 12 from rfl, show (16 : Int32) = nI 16 from rfl, e 12 16 (by omega) (by omega)]
        exact ⟨fun _ => tq_ok hI gv, fun q => absurd rfl q⟩
      refine ⟨fun z => absurd z (hno 0 (by omega)), fun _ => ⟨fun z => absurd z (hno 1 (by omega)), fun _ => ⟨fun z => absurd z (hno 2 (by omega)), fun _ => ⟨fun z => absurd z (hno 3 (by omega)), fun _ => ⟨fun _ => T, fun _ => ⟨fun _ => T, fun _ => ⟨fun _ => T, fun _ => ⟨fun _ => T, fun _ => ⟨fun _ => T, fun _ => ⟨fun _ => T, fun _ => ⟨fun z => absurd z (hno 10 (by omega)), fun _ => ⟨fun z => absurd z (hno 11 (by omega)), fun _ => ⟨fun _ => T, fun _ => ⟨fun _ => T, fun _ => ⟨fun _ => T, fun _ => ⟨fun _ => T, fun _ => ⟨fun _ => T, fun _ => ⟨fun z => absurd z (hno 17 (by omega)), fun _ => T⟩⟩⟩⟩⟩⟩⟩⟩⟩⟩⟩⟩⟩⟩⟩⟩⟩⟩
  have good' : ∀ f v, f ≤ 17 → a1 = nI f → (v = if f = 0 then nI ((List.range' 0 24).countP (isin w)) else if f = 1 then w 0 else if f = 2 then w 1 else if f = 3 then w 2 else if f < 10 then w (3 + f - 4) else if f = 10 then nI ((List.range' 0 ns).countP (opn w)) else if f = 11 then nI ((List.range' 0 24).countP (lckd w)) else if f < 17 then w (9 + f - 12) else w 14) → F_X12_count a1 Sm (tq n Sc v) := by
    intro f v f1 f2 fv
    refine good v (fun f' q1 q2 => ?_) (fun q => absurd f2 (q f f1))
    have : f' = f := by rw [f2, nI_eq (by omega) (by omega)] at q2; exact q2.symm
    rw [this]; exact fv
  have sc := hB.1.sca
  rw [F_X11_count, hR.2.1, x_storedJobs hB, x_openT hB, x_lockedJobs hB]
  refine ⟨fun c => good' 0 _ (by omega) c rfl, fun _ => ⟨fun c => good' 1 _ (by omega) c (sc.1 0 (by omega)), fun _ => ⟨fun c => good' 2 _ (by omega) c (sc.1 1 (by omega)), fun _ => ⟨fun c => good' 3 _ (by omega) c (sc.1 2 (by omega)), fun _ => ⟨fun c => good' 4 _ (by omega) c (sc.1 3 (by omega)), fun _ => ⟨fun c => good' 5 _ (by omega) c (sc.1 4 (by omega)), fun _ => ⟨fun c => good' 6 _ (by omega) c (sc.1 5 (by omega)), fun _ => ⟨fun c => good' 7 _ (by omega) c (sc.1 6 (by omega)), fun _ => ⟨fun c => good' 8 _ (by omega) c (sc.1 7 (by omega)), fun _ => ⟨fun c => good' 9 _ (by omega) c (sc.1 8 (by omega)), fun _ => ⟨fun c => good' 10 _ (by omega) c rfl, fun _ => ⟨fun c => good' 11 _ (by omega) c rfl, fun _ => ⟨fun c => good' 12 _ (by omega) c (sc.2.1 0 (by omega)), fun _ => ⟨fun c => good' 13 _ (by omega) c (sc.2.1 1 (by omega)), fun _ => ⟨fun c => good' 14 _ (by omega) c (sc.2.1 2 (by omega)), fun _ => ⟨fun c => good' 15 _ (by omega) c (sc.2.1 3 (by omega)), fun _ => ⟨fun c => good' 16 _ (by omega) c (sc.2.1 4 (by omega)), fun _ => ⟨fun c => good' 17 _ (by omega) c (x2.trans hW.hnl.2.symm), fun _ => good _ (fun f f1 f2 => ?_) (fun _ => rfl)⟩⟩⟩⟩⟩⟩⟩⟩⟩⟩⟩⟩⟩⟩⟩⟩⟩⟩
  exfalso
  rcases (show f = 0 ∨ f = 1 ∨ f = 2 ∨ f = 3 ∨ f = 4 ∨ f = 5 ∨ f = 6 ∨ f = 7 ∨ f = 8 ∨ f = 9 ∨ f = 10 ∨ f = 11 ∨ f = 12 ∨ f = 13 ∨ f = 14 ∨ f = 15 ∨ f = 16 ∨ f = 17 by omega) with rfl | rfl | rfl | rfl | rfl | rfl | rfl | rfl | rfl | rfl | rfl | rfl | rfl | rfl | rfl | rfl | rfl | rfl <;> exact absurd f2 (by assumption)
end CS
end PU29
