section PU56
/-! ALL SCHEDULES ARE LOOKED AT -/
/-- the last slot that is through -/
def slo (w : Wd) (p : Nat) : Int32 := if 0 ≤ w 4 - w (1257 + 8 * p + 1) then (w 4 - w (1257 + 8 * p + 1)) / w (1257 + 8 * p) else -1
/-- the first slot that is to be fired -/
def fro (w : Wd) (p : Nat) : Int32 := if w (1257 + 8 * p + 5) = 1 then (if w (1257 + 8 * p + 7) + 1 < (slo w p + 1) - 5 then (slo w p + 1) - 5 else w (1257 + 8 * p + 7) + 1) else if w (1257 + 8 * p + 5) = 2 then (if w 4 - (w (1257 + 8 * p + 1) + slo w p * w (1257 + 8 * p)) ≤ w (1257 + 8 * p + 6) then slo w p else slo w p + 1) else slo w p
def wrn (p : Nat) : Nat → Nat → Wd → Wd × Nat
  | 0, _, w => (w, 0)
  | r + 1, q, w => ((wrn p r (q + 1) (wfire w p (nI q)).1).1, (wfire w p (nI q)).2 + (wrn p r (q + 1) (wfire w p (nI q)).1).2)
def wlo (w : Wd) (p : Nat) : Wd × Nat := if w (1257 + 8 * p + 7) < slo w p then (va_up (wrn p ((slo w p).toNatClampNeg + 1 - (fro w p).toNatClampNeg) (fro w p).toNatClampNeg w).1 (1257 + 8 * p + 7) (slo w p), (wrn p ((slo w p).toNatClampNeg + 1 - (fro w p).toNatClampNeg) (fro w p).toNatClampNeg w).2) else (w, 0)
def wal : Nat → Nat → Wd → Wd × Nat
  | 0, _, w => (w, 0)
  | r + 1, p, w => ((wal r (p + 1) (wlo w p).1).1, (wlo w p).2 + (wal r (p + 1) (wlo w p).1).2)
section CS
variable {Sc Sc' Sm S' S : sSt} {l sp n t : Nat} {w w' : Wd} {π π' : List Nat} {ns np cm nl ns' np' cm' nl' B p j M : Nat} {q : Int32}
theorem slo_v (hP : POK w p) (hw : ∃ m, m ≤ 9999 ∧ w 4 = nI m) : (slo w p = -1 ∧ w 4 < w (1257 + 8 * p + 1)) ∨ (¬ w 4 < w (1257 + 8 * p + 1) ∧ slo w p = (w 4 - w (1257 + 8 * p + 1)) / w (1257 + 8 * p) ∧ ∃ M, M ≤ 9999 ∧ slo w p = nI M) := by
  obtain ⟨⟨e, e1, e2, e3⟩, ⟨a, a1, a2⟩, -, -, -⟩ := hP
  obtain ⟨m, m1, m2⟩ := hw
  unfold slo
  rw [m2, a2, e3]
  by_cases c : m < a
  · left
    refine ⟨if_neg (fun z => ?_), nI_lt c (by omega)⟩
    exact absurd (pk_sneg (show a < 2 ^ 30 by omega) c) (Int32.not_lt.mpr z)
  · right
    have hs : nI m - nI a = nI (m - a) := pk_sub (by omega)
    have hd : nI (m - a) / nI e = nI ((m - a) / e) := pk_div (by omega) (by omega) (by omega)
    have hle : (m - a) / e ≤ m - a := Nat.div_le_self _ _
    refine ⟨nI_nlt (by omega) (by omega), ?_, (m - a) / e, by omega, ?_⟩
    · rw [hs, if_pos (nI_pos' (by omega))]
    · rw [hs, if_pos (nI_pos' (by omega)), hd]
theorem ar5 (a : Int32) : (a - 5) + 1 = (a + 1) - 5 := by
  rw [Int32.sub_eq_add_neg, Int32.sub_eq_add_neg, Int32.add_assoc, Int32.add_assoc, Int32.add_comm (-5) 1]
theorem fro_v (hP : POK w p) (hw : ∃ m, m ≤ 9999 ∧ w 4 = nI m) (h : w (1257 + 8 * p + 7) < slo w p) : ∃ M q, M ≤ 9999 ∧ slo w p = nI M ∧ fro w p = nI q ∧ q ≤ M + 1 := by
  have hs := slo_v hP hw
  obtain ⟨-, -, -, -, hsl⟩ := hP
  have hM : ∃ M, M ≤ 9999 ∧ slo w p = nI M := by
    rcases hs with ⟨q, -⟩ | ⟨-, -, q⟩
    · rw [q] at h
      rcases hsl with z | ⟨n, n1, n2⟩
      · rw [z] at h; exact absurd h (by decide)
      · rw [n2] at h
        exact absurd (Int32.lt_trans h (by decide : (-1 : Int32) < 0)) (nI_pos (by omega))
    · exact q
  obtain ⟨M, M1, M2⟩ := hM
  have hS : ∃ s1, s1 ≤ M ∧ w (1257 + 8 * p + 7) + 1 = nI s1 := by
    rcases hsl with z | ⟨n, n1, n2⟩
    · exact ⟨0, by omega, by rw [z]; rfl⟩
    · rw [n2, M2, nI_ltI (by omega) (by omega)] at h
      exact ⟨n + 1, by omega, by rw [n2, nI_1]⟩
  obtain ⟨s1, s2, s3⟩ := hS
  unfold fro
  rw [s3, M2, nI_1]
  by_cases c1 : w (1257 + 8 * p + 5) = 1
  · rw [if_pos c1]
    by_cases c5 : M + 1 < 5
    · refine ⟨M, s1, M1, rfl, if_neg (fun z => ?_), by omega⟩
      have : nI (M + 1) - 5 < 0 := pk_sneg (b := 5) (by omega) c5
      exact absurd (Int32.lt_trans z this) (nI_pos (by omega))
    · have e5 : nI (M + 1) - 5 = nI (M + 1 - 5) := pk_sub (b := 5) (by omega)
      rw [e5]
      by_cases c : nI s1 < nI (M + 1 - 5)
      · rw [if_pos c]; exact ⟨M, M + 1 - 5, M1, rfl, rfl, by omega⟩
      · rw [if_neg c]; exact ⟨M, s1, M1, rfl, rfl, by omega⟩
  · rw [if_neg c1]
    by_cases c2 : w (1257 + 8 * p + 5) = 2
    · rw [if_pos c2]
      by_cases c : w 4 - (w (1257 + 8 * p + 1) + nI M * w (1257 + 8 * p)) ≤ w (1257 + 8 * p + 6)
      · rw [if_pos c]; exact ⟨M, M, M1, rfl, rfl, by omega⟩
      · rw [if_neg c]; exact ⟨M, M + 1, M1, rfl, rfl, by omega⟩
    · rw [if_neg c2]; exact ⟨M, M, M1, rfl, rfl, by omega⟩
theorem wlo_p {qn : Nat} (h : w (1257 + 8 * p + 7) < slo w p) (hs : slo w p = nI M) (hf : fro w p = nI qn) (hM : M ≤ 9999) (hq : qn ≤ M + 1) : wlo w p = (va_up (wrn p (M + 1 - qn) qn w).1 (1257 + 8 * p + 7) (nI M), (wrn p (M + 1 - qn) qn w).2) := by
  unfold wlo
  rw [if_pos h, hs, hf, nI_clamp (by omega), nI_clamp (by omega)]
theorem wlo_n (h : ¬ w (1257 + 8 * p + 7) < slo w p) : wlo w p = (w, 0) := by unfold wlo; rw [if_neg h]
/-! what isn't touched, and how many came -/
theorem wrn_hi {x : Nat} (hx : 1149 ≤ x ∨ x = 0 ∨ x = 1 ∨ x = 3 ∨ x = 4) : ∀ r q w, (wrn p r q w).1 x = w x := by
  intro r
  induction r with
  | zero => intro q w; rfl
  | succ r ih => intro q w; rw [wrn]; exact (ih (q + 1) _).trans (wfire_hi hx)
theorem wrn_6 : ∀ r q w, (wrn p r q w).1 6 = w 6 + nI (wrn p r q w).2 := by
  intro r
  induction r with
  | zero => intro q w; exact (Int32.add_zero _).symm
  | succ r ih => intro q w; rw [wrn]; show (wrn p r (q + 1) _).1 6 = w 6 + nI (_ + _); rw [ih (q + 1) _, wfire_6, Int32.add_assoc, nI_add]
theorem wlo_hi {x : Nat} (hx : 1289 ≤ x ∨ x = 0 ∨ x = 1 ∨ x = 3 ∨ x = 4) (hp : p < 4) : (wlo w p).1 x = w x := by
  unfold wlo
  split
  · show va_up _ _ _ x = _
    rw [up_ne (by omega)]; exact wrn_hi (by omega) _ _ _
  · rfl
theorem wlo_6 : (wlo w p).1 6 = w 6 + nI (wlo w p).2 := by
  unfold wlo
  by_cases c : w (1257 + 8 * p + 7) < slo w p
  · rw [if_pos c]
    show va_up (wrn p ((slo w p).toNatClampNeg + 1 - (fro w p).toNatClampNeg) (fro w p).toNatClampNeg w).1 (1257 + 8 * p + 7) (slo w p) 6 = w 6 + nI (wrn p ((slo w p).toNatClampNeg + 1 - (fro w p).toNatClampNeg) (fro w p).toNatClampNeg w).2
    rw [up_ne (by omega)]; exact wrn_6 _ _ _
  · rw [if_neg c]; exact (Int32.add_zero _).symm
theorem wal_hi {x : Nat} (hx : 1289 ≤ x ∨ x = 0 ∨ x = 1 ∨ x = 3 ∨ x = 4) : ∀ r p w, p + r ≤ 4 → (wal r p w).1 x = w x := by
  intro r
  induction r with
  | zero => intro p w _; rfl
  | succ r ih => intro p w hp; rw [wal]; exact (ih (p + 1) _ (by omega)).trans (wlo_hi hx (by omega))
theorem wal_6 : ∀ r p w, (wal r p w).1 6 = w 6 + nI (wal r p w).2 := by
  intro r
  induction r with
  | zero => intro p w; exact (Int32.add_zero _).symm
  | succ r ih => intro p w; rw [wal]; show (wal r (p + 1) _).1 6 = w 6 + nI (_ + _); rw [ih (p + 1) _, wlo_6, Int32.add_assoc, nI_add]
/-! the slot of a schedule is set -/
theorem WF.plan (h : WF w ns np cm nl) (hp : p < np) (hM : M ≤ 9999) : WF (va_up w (1257 + 8 * p + 7) (nI M)) ns np cm nl := by
  have hnp := h.hnp.1
  have hn := h.hns.1
  refine ⟨by rw [up_ne (by omega)]; exact h.edt, ⟨h.hns.1, by rw [up_ne (by omega)]; exact h.hns.2⟩, ⟨h.hnp.1, by rw [up_ne (by omega)]; exact h.hnp.2⟩, ⟨h.hcm.1, by rw [up_ne (by omega)]; exact h.hcm.2⟩, ⟨h.hnl.1, by rw [up_ne (by omega)]; exact h.hnl.2⟩, fun i hi => (h.job i hi).c (fun x _ _ => up_ne (by omega)), fun a b ha hb hl he => ?_, fun s' hs' => (h.ses s' hs').c (fun x _ _ => up_ne (by omega)), fun p' hp' => ?_, ?_, ?_, ?_, ?_, ?_, ?_, fun g hg => ?_⟩
  · have en : ∀ i, i < 24 → num (va_up w (1257 + 8 * p + 7) (nI M)) i = num w i := fun i hi => up_ne (by omega)
    rw [en a ha, en b hb] at he
    refine h.one a b ha hb ?_ he
    unfold lie at *; rw [← en a ha]; exact hl
  · by_cases c : p' = p
    · rw [c]
      obtain ⟨x1, x2, x3, x4, -⟩ := h.pln p hp
      unfold POK
      rw [up_ne (by omega), up_ne (by omega), up_ne (by omega), up_ne (by omega), up_eq]
      exact ⟨x1, x2, x3, x4, Or.inr ⟨M, hM, rfl⟩⟩
    · exact (h.pln p' hp').c (fun x _ _ => up_ne (by omega))
  · rw [up_ne (by omega)]; exact h.mono
  · rw [up_ne (by omega)]; exact h.wall
  · rw [up_ne (by omega)]; exact h.base
  · rw [up_ne (by omega)]; exact h.cap
  · rw [up_ne (by omega)]; exact h.jit
  · rw [up_ne (by omega)]; exact h.lim
  · rw [up_ne (by omega)]; exact h.par g hg
theorem zB.pln (h : zB S t w π ns np cm nl) (hp : p < np) (hM : M ≤ 9999) : zB (uI S 25 (4 * t + p) 7 (nI M)) t (va_up w (1257 + 8 * p + 7) (nI M)) π ns np cm nl := by
  obtain ⟨hT, hO, hW, hZ⟩ := h
  have hn := hW.hns.1
  have hnp := hW.hnp.1
  refine ⟨⟨?_, hT.ref, hT.job.c hO hn rfl (fun i _ => uI_other (by omega)) (fun i _ d _ => uI_other (by omega)) (fun x _ _ => up_ne (by omega)) (fun s _ => up_ne (by omega)) (fun x _ _ => up_ne (by omega)), hT.sca.c (fun f _ => ?_) (uI_other (by omega)) (uI_other (by omega)) (fun x _ _ => up_ne (by omega)), hT.ses.c hn (fun s _ => uI_other (by omega)) (fun s _ k _ _ => uI_other (by omega)) (fun x _ _ => up_ne (by omega)), fun p' hp' f hf => ?_, hT.log.c hW.hnl.1 (uI_other (by omega)) (uI_other (by omega)) (fun x _ _ => up_ne (by omega))⟩, hO.c (fun j _ => up_ne (by omega)), hW.plan hp hM, hZ.c hn (fun j _ => ⟨up_ne (by omega), up_ne (by omega)⟩) (fun s _ => up_ne (by omega)) (fun x _ _ => up_ne (by omega))⟩
  · rw [show (uI S 25 (4 * t + p) 7 (nI M)).1 13 t = S.1 13 t from uI_other (by omega)]; exact hT.size
  · rw [show (uI S 25 (4 * t + p) 7 (nI M)).1 13 t = S.1 13 t from uI_other (by omega)]
  · by_cases c : p' = p ∧ f = 7
    · rw [c.1, c.2, uI_at, up_eq]
    · rw [uI_nc (by omega), up_ne (by omega)]; exact hT.pln p' hp' f hf
theorem zX.pln (h : zX S t w ns np nl B) (hp : p < np) (hM : M ≤ 9999) : zX (uI S 25 (4 * t + p) 7 (nI M)) t (va_up w (1257 + 8 * p + 7) (nI M)) ns np nl B := by
  obtain ⟨π, cm, h, hc⟩ := h
  exact ⟨π, cm, h.pln hp hM, hc⟩
theorem OW.pln (h : OW w ns np nl B) (hp : p < np) (hM : M ≤ 9999) : OW (va_up w (1257 + 8 * p + 7) (nI M)) ns np nl B := by
  obtain ⟨π, cm, hO, hW, hZ, hc⟩ := h
  have hn := hW.hns.1
  have hnp := hW.hnp.1
  exact ⟨π, cm, hO.c (fun j _ => up_ne (by omega)), hW.plan hp hM, hZ.c hn (fun j _ => ⟨up_ne (by omega), up_ne (by omega)⟩) (fun s _ => up_ne (by omega)) (fun x _ _ => up_ne (by omega)), hc⟩
theorem OW.run (hB : B < 999000) (hp : p < np) : ∀ r q w, OW w ns np nl B → OW (wrn p r q w).1 ns np nl B := by
  intro r
  induction r with
  | zero => intro q w h; exact h
  | succ r ih => intro q w h; rw [wrn]; exact ih (q + 1) _ (h.fire hB hp)
theorem OW.wf (h : OW w ns np nl B) : ∃ cm, WF w ns np cm nl := by obtain ⟨_, cm, _, a, _⟩ := h; exact ⟨cm, a⟩
theorem OW.lo (h : OW w ns np nl B) (hB : B < 999000) (hp : p < np) : OW (wlo w p).1 ns np nl B := by
  obtain ⟨cm, hW⟩ := h.wf
  by_cases c : w (1257 + 8 * p + 7) < slo w p
  · obtain ⟨M, qn, m1, m2, m3, m4⟩ := fro_v (hW.pln p hp) hW.wall c
    rw [wlo_p c m2 m3 m1 m4]
    exact (OW.run hB hp _ _ _ h).pln hp m1
  · rw [wlo_n c]; exact h
/-! the class -/
theorem x_run (hB : B < 999000) (hp : p < np) (hM : M ≤ 9999) {kk2 : Nat → Int32 → sSt → Prop} {k : sSt → Prop} : ∀ r q m (S : sSt) (w : Wd), q + r = M + 1 → r < m → zX S t w ns np nl B → (∀ S', zX S' t (va_up (wrn p r q w).1 (1257 + 8 * p + 7) (nI M)) ns np nl B → KP t S S' → S'.2 = S.2 → kk2 t (nI (p + 1)) S') → B_X6_lookAtSchedules_45 kk2 m t (nI p) (4 * t + p) (nI M) (nI q) S k := by
  intro r
  induction r with
  | zero =>
    intro q m S w hq hm h hk
    obtain ⟨m, rfl⟩ : ∃ z, m = z + 1 := ⟨m - 1, by omega⟩
    simp only [B_X6_lookAtSchedules_45_s, Bb_X6_lookAtSchedules_45, B_X6_lookAtSchedules_69]
    obtain ⟨cm, hW⟩ := h.ow.wf
    have hnp := hW.hnp.1
    refine ⟨fun _ => ?_, fun z => absurd (nI_lt (show M < q by omega) (by omega)) z⟩
    rintro S12 rfl x8 rfl
    rw [nI_1]
    exact hk _ (h.pln hp hM) (KP.rfl.i (by unfold ow; omega)) rfl
  | succ r ih =>
    intro q m S w hq hm h hk
    obtain ⟨m, rfl⟩ : ∃ z, m = z + 1 := ⟨m - 1, by omega⟩
    simp only [B_X6_lookAtSchedules_45_s, Bb_X6_lookAtSchedules_45, B_X6_lookAtSchedules_69]
    refine ⟨fun z => absurd z (nI_nlt (show q ≤ M by omega) (by omega)), fun _ => ?_⟩
    refine x_fire h hB hp (fun S1 h1 k1 r1 => ?_)
    rintro x15 rfl
    rw [nI_1]
    exact ih (q + 1) m S1 _ (by omega) (by omega) h1 (fun S' g1 g2 g3 => hk S' g1 (k1.tr g2) (g3.trans r1))
theorem x_lookAll (hB : B < 999000) {k : sSt → Prop} : ∀ r p m (S : sSt) (w : Wd), p + r = np → r < m → zX S t w ns np nl B → (∀ S', zX S' t (wal r p w).1 ns np nl B → KP t S S' → S'.2 = S.2 → k S') → B_X6_lookAtSchedules_2 m t (nI p) S k := by
  intro r
  induction r with
  | zero =>
    intro p m S w hq hm h hk
    obtain ⟨m, rfl⟩ : ∃ z, m = z + 1 := ⟨m - 1, by omega⟩
    obtain ⟨π, cm, hb, -⟩ := id h
    have hnp := hb.2.2.1.hnp
    have e8 : S.1 13 t 8 = nI np := (hb.1.sca.1 1 (by omega)).trans hnp.2
    simp only [B_X6_lookAtSchedules_2_s, Bb_X6_lookAtSchedules_2, e8]
    refine ⟨fun _ => hk S h KP.rfl rfl, fun z => absurd (nI_le (show np ≤ p by omega) (by omega)) z⟩
  | succ r ih =>
    intro p m S w hq hm h hk
    obtain ⟨m, rfl⟩ : ∃ z, m = z + 1 := ⟨m - 1, by omega⟩
    obtain ⟨π, cm, hb, -⟩ := id h
    have hW := hb.2.2.1
    have hnp := hW.hnp
    have hp : p < np := by omega
    have e8 : S.1 13 t 8 = nI np := (hb.1.sca.1 1 (by omega)).trans hnp.2
    have e11 : S.1 13 t 11 = w 4 := hb.1.sca.1 4 (by omega)
    have f0 : S.1 25 (4 * t + p) 0 = w (1257 + 8 * p) := hb.1.pln p hp 0 (by omega)
    have f1 : S.1 25 (4 * t + p) 1 = w (1257 + 8 * p + 1) := hb.1.pln p hp 1 (by omega)
    have f5 : S.1 25 (4 * t + p) 5 = w (1257 + 8 * p + 5) := hb.1.pln p hp 5 (by omega)
    have f6 : S.1 25 (4 * t + p) 6 = w (1257 + 8 * p + 6) := hb.1.pln p hp 6 (by omega)
    have f7 : S.1 25 (4 * t + p) 7 = w (1257 + 8 * p + 7) := hb.1.pln p hp 7 (by omega)
    have next : ∀ S1, zX S1 t (wlo w p).1 ns np nl B → KP t S S1 → S1.2 = S.2 → B_X6_lookAtSchedules_2 m t (nI (p + 1)) S1 k := fun S1 h1 k1 r1 => ih (p + 1) m S1 _ (by omega) (by omega) h1 (fun S' g1 g2 g3 => hk S' g1 (k1.tr g2) (g3.trans r1))
    have go : (slo w p ≤ w (1257 + 8 * p + 7) → B_X6_lookAtSchedules_69 (fun a0 a1 S => B_X6_lookAtSchedules_2 m a0 a1 S k) t (nI p) S k) ∧ (¬ slo w p ≤ w (1257 + 8 * p + 7) → F_X4_firstToFire (4 * t + p) (slo w p) (w 4) S (fun r9 S10 => B_X6_lookAtSchedules_45 (fun a0 a1 S => B_X6_lookAtSchedules_2 m a0 a1 S k) fuel t (nI p) (4 * t + p) (slo w p) r9 S10 k)) := by
      refine ⟨fun c => ?_, fun c => ?_⟩
      · rw [B_X6_lookAtSchedules_69]
        rintro x8 rfl
        rw [nI_1]
        exact next S (by rw [wlo_n (Int32.not_lt.mpr c)]; exact h) KP.rfl rfl
      · have c' := Int32.not_le.mp c
        obtain ⟨M, qn, m1, m2, m3, m4⟩ := fro_v (hW.pln p hp) hW.wall c'
        have run : B_X6_lookAtSchedules_45 (fun a0 a1 S => B_X6_lookAtSchedules_2 m a0 a1 S k) fuel t (nI p) (4 * t + p) (slo w p) (fro w p) S k := by
          rw [m2, m3]
          refine x_run hB hp m1 (M + 1 - qn) qn fuel S w (by omega) (fuel_gt (by omega)) h (fun S1 g1 g2 g3 => next S1 ?_ g2 g3)
          rw [wlo_p c' m2 m3 m1 m4]; exact g1
        rw [F_X4_firstToFire, f5, f7]
        unfold fro at run
        refine ⟨fun d1 => ?_, fun d1 => ⟨fun d2 => ?_, fun d2 => ?_⟩⟩
        · rw [ar5]
          rw [if_pos d1] at run
          exact run
        · rw [F_X4_timeOf, f0, f1, f6]
          rw [if_neg d1, if_pos d2] at run
          refine ⟨fun d3 => ?_, fun d3 => ?_⟩
          · rw [if_neg (Int32.not_le.mpr d3)] at run; exact run
          · rw [if_pos (Int32.not_lt.mp d3)] at run; exact run
        · rw [if_neg d1, if_neg d2] at run; exact run
    simp only [B_X6_lookAtSchedules_2_s, Bb_X6_lookAtSchedules_2, e8]
    refine ⟨fun z => absurd z (nI_ge (show p < np by omega) (by omega)), fun _ => ?_⟩
    rw [ix_n (by omega) (by omega), F_X4_slotOf, f0, f1, e11, B_X4_slotOf_16, f7]
    obtain ⟨⟨e, e1, e2, e3⟩, -⟩ := hW.pln p hp
    rcases slo_v (hW.pln p hp) hW.wall with ⟨s1, s2⟩ | ⟨s1, s2, -⟩
    · refine ⟨fun _ => ?_, fun z => absurd s2 z⟩
      rw [← s1, e11]
      exact go
    · refine ⟨fun z => absurd z s1, fun _ => ⟨fun _ => ⟨by rw [e3]; exact nI_ne0 (by omega) (by omega), ?_⟩, fun z => absurd (by rw [e3]; exact nI_le (a := 1) e1 (by omega)) z⟩⟩
      rw [← s2]
      exact go
/-! the model -/
theorem m_run (hp : p < 4) (hM : M ≤ 9999) {k : Int32 → sSt → Prop} : ∀ r q c m (w : Wd), q + r = M + 1 → r < m → k (nI (c + (wrn p r q w).2)) (sw S (va_up (wrn p r q w).1 (1257 + 8 * p + 7) (nI M))) → B_X12_looks_106 m (nI p) (nI M) (nI c) (nI q) (sw S w) k := by
  intro r
  induction r with
  | zero =>
    intro q c m w hq hm hk
    obtain ⟨m, rfl⟩ : ∃ z, m = z + 1 := ⟨m - 1, by omega⟩
    simp only [B_X12_looks_106_s, Bb_X12_looks_106]
    refine ⟨fun _ => ?_, fun z => absurd (nI_lt (show M < q by omega) (by omega)) z⟩
    rw [m_planAt7, ix_n (by omega) (by omega)]
    rintro S18 rfl
    rw [sw_i]
    exact hk
  | succ r ih =>
    intro q c m w hq hm hk
    obtain ⟨m, rfl⟩ : ∃ z, m = z + 1 := ⟨m - 1, by omega⟩
    simp only [B_X12_looks_106_s, Bb_X12_looks_106]
    refine ⟨fun z => absurd z (nI_nlt (show q ≤ M by omega) (by omega)), fun _ => ?_⟩
    refine m_fires hp ?_
    rw [wrn] at hk
    simp only [B_X12_looks_129, forall_eq, nI_1]
    rcases wfire_01 (w := w) (p := p) (q := nI q) with e | e
    · rw [e] at hk ⊢
      refine ⟨fun _ => ?_, fun z => absurd rfl z⟩
      rw [Int32.add_zero]
      exact ih (q + 1) c m _ (by omega) (by omega) (by rw [Nat.zero_add] at hk; exact hk)
    · rw [e] at hk ⊢
      refine ⟨fun z => absurd z (by decide), fun _ => ?_⟩
      exact ih (q + 1) (c + 1) m _ (by omega) (by omega) (by rw [← Nat.add_assoc] at hk; exact hk)
theorem m_looks (h : OW w ns np nl B) (hB : B < 999000) (hp : p < np) {k : Int32 → sSt → Prop} (hk : k (nI (wlo w p).2) (sw S (wlo w p).1)) : F_X12_looks (nI p) (sw S w) k := by
  obtain ⟨cm, hW⟩ := h.wf
  have hnp := hW.hnp.1
  obtain ⟨⟨e, e1, e2, e3⟩, -⟩ := hW.pln p hp
  have he : ¬ w (1257 + 8 * p) = 0 := by rw [e3]; exact nI_ne0 (by omega) (by omega)
  have go : ∀ {kk : Int32 → sSt → Prop}, kk (slo w p) (sw S w) → F_X12_slotNow (nI p) (sw S w) kk := by
    intro kk hkk
    rw [F_X12_slotNow, m_planAt1, ix_n (by omega) (by omega), forall_eq, sw_w]
    unfold slo at hkk
    refine ⟨fun c => ?_, fun c => ?_⟩
    · rw [m_planAt0, ix_n (by omega) (by omega), sw_w]
      rw [if_pos c] at hkk
      exact ⟨he, hkk⟩
    · rw [if_neg c] at hkk; exact hkk
  rw [F_X12_looks]
  refine go ?_
  rw [m_planAt7, ix_n (by omega) (by omega), forall_eq, sw_w]
  refine ⟨fun c => ?_, fun c => by rw [wlo_n c] at hk; exact hk⟩
  obtain ⟨M, qn, m1, m2, m3, m4⟩ := fro_v (hW.pln p hp) hW.wall c
  rw [wlo_p c m2 m3 m1 m4] at hk
  have run : B_X12_looks_106 fuel (nI p) (slo w p) 0 (fro w p) (sw S w) k := by
    rw [m2, m3]
    exact m_run (by omega) m1 (M + 1 - qn) qn 0 fuel w (by omega) (fuel_gt (by omega)) (by rw [Nat.zero_add]; exact hk)
  rw [m_planAt5, ix_n (by omega) (by omega), forall_eq, sw_w]
  unfold fro at run
  simp only [B_X12_looks_96, B_X12_looks_97]
  refine ⟨fun d1 => ⟨fun d2 => ?_, fun d2 => ?_⟩, fun d1 => ?_⟩
  · rw [if_neg d1, if_neg d2] at run; exact run
  · rw [if_neg d1, if_pos d2] at run
    rw [F_X12_timeOf, m_planAt1, ix_n (by omega) (by omega), m_planAt0, ix_n (by omega) (by omega), m_planAt6, ix_n (by omega) (by omega), sw_w]
    refine ⟨fun d3 => ?_, fun d3 => ?_⟩
    · rw [if_pos d3] at run; exact run
    · rw [if_neg d3] at run; exact run
  · rw [if_pos d1] at run; exact run
theorem m_allLook (hB : B < 999000) {k : Int32 → sSt → Prop} : ∀ r p c m (w : Wd), p + r = np → r < m → OW w ns np nl B → k (nI (c + (wal r p w).2)) (sw S (wal r p w).1) → B_X12_allLook_4 m (nI c) (nI p) (sw S w) k := by
  intro r
  induction r with
  | zero =>
    intro p c m w hq hm h hk
    obtain ⟨m, rfl⟩ : ∃ z, m = z + 1 := ⟨m - 1, by omega⟩
    obtain ⟨cm, hW⟩ := h.wf
    have hnp := hW.hnp
    simp only [B_X12_allLook_4_s, Bb_X12_allLook_4, sw_w, hnp.2]
    exact ⟨fun _ => hk, fun z => absurd (nI_le (show np ≤ p by omega) (by omega)) z⟩
  | succ r ih =>
    intro p c m w hq hm h hk
    obtain ⟨m, rfl⟩ : ∃ z, m = z + 1 := ⟨m - 1, by omega⟩
    obtain ⟨cm, hW⟩ := h.wf
    have hnp := hW.hnp
    simp only [B_X12_allLook_4_s, Bb_X12_allLook_4, sw_w, hnp.2]
    refine ⟨fun z => absurd z (nI_ge (show p < np by omega) (by omega)), fun _ => ?_⟩
    refine m_looks h hB (show p < np by omega) ?_
    simp only [forall_eq, nI_1, nI_add]
    rw [wal] at hk
    exact ih (p + 1) _ m _ (by omega) (by omega) (h.lo hB (by omega)) (by rw [Nat.add_assoc]; exact hk)
end CS
end PU56
