section PU72
/-! CALL table: a schedule comes; when a new job is due -/
def slq (w : Wd) (e a : Nat) : Int32 := if 0 ≤ w 4 - nI a then (w 4 - nI a) / nI e else -1
def pvl (e a g p c m x : Nat) (sl : Int32) (f : Nat) : Int32 := if f = 0 then nI e else if f = 1 then nI a else if f = 2 then nI g else if f = 3 then nI p else if f = 4 then nI c else if f = 5 then nI m else if f = 6 then nI x else sl
def wpn (w : Wd) (np e a g p c m x : Nat) : Wd := fun z => if z = 1 then nI (np + 1) else if 1257 + 8 * np ≤ z ∧ z < 1265 + 8 * np then pvl e a g p c m x (slq w e a) (z - (1257 + 8 * np)) else w z
section CS
variable {S S' : sSt} {t : Nat} {w w' : Wd} {π : List Nat} {ns np cm nl f j e a g p c m x : Nat}
theorem wpn_o {z : Nat} (h1 : z ≠ 1) (h : z < 1257 + 8 * np ∨ 1265 + 8 * np ≤ z) : wpn w np e a g p c m x z = w z := by unfold wpn; rw [if_neg h1, if_neg (by omega)]
theorem wpn_i {f : Nat} (h : f < 8) : wpn w np e a g p c m x (1257 + 8 * np + f) = pvl e a g p c m x (slq w e a) f := by
  unfold wpn
  rw [if_neg (by omega), if_pos (by omega)]
  congr 1; omega
theorem wpn_1 : wpn w np e a g p c m x 1 = nI (np + 1) := by unfold wpn; rw [if_pos rfl]
theorem slq_v (hw : ∃ m, m ≤ 9999 ∧ w 4 = nI m) (he : 1 ≤ e ∧ e ≤ 60) (ha : a ≤ 59) : slq w e a = -1 ∨ ∃ n, n ≤ 9999 ∧ slq w e a = nI n := by
  obtain ⟨m, m1, m2⟩ := hw
  unfold slq
  rw [m2]
  by_cases c : m < a
  · left
    exact if_neg (fun z => absurd (pk_sneg (show a < 2 ^ 30 by omega) c) (Int32.not_lt.mpr z))
  · right
    have hs : nI m - nI a = nI (m - a) := pk_sub (by omega)
    have hd : nI (m - a) / nI e = nI ((m - a) / e) := pk_div (by omega) (by omega) (by omega)
    have hle : (m - a) / e ≤ m - a := Nat.div_le_self _ _
    exact ⟨(m - a) / e, by omega, by rw [hs, if_pos (nI_pos' (by omega)), hd]⟩
theorem WF.newP (h : WF w ns np cm nl) (hp : np < 4) (he : 1 ≤ e ∧ e ≤ 60) (ha : a ≤ 59) (hg : g < 6) (hc : 1 ≤ c ∧ c ≤ 9) : WF (wpn w np e a g p c m x) ns (np + 1) cm nl := by
  have hn := h.hns.1
  have o : ∀ z, z ≠ 1 → (z < 1257 + 8 * np ∨ 1265 + 8 * np ≤ z) → wpn w np e a g p c m x z = w z := fun z a b => wpn_o a b
  refine ⟨by rw [o _ (by omega) (by omega)]; exact h.edt, ⟨h.hns.1, by rw [o _ (by omega) (by omega)]; exact h.hns.2⟩, ⟨by omega, wpn_1⟩, ⟨h.hcm.1, by rw [o _ (by omega) (by omega)]; exact h.hcm.2⟩, ⟨h.hnl.1, by rw [o _ (by omega) (by omega)]; exact h.hnl.2⟩, fun i hi => (h.job i hi).c (fun x _ _ => o x (by omega) (by omega)), fun i1 i2 hi1 hi2 hl1 hn1 => ?_, fun s' hs' => (h.ses s' hs').c (fun x _ _ => o x (by omega) (by omega)), fun p' hp' => ?_, ?_, ?_, ?_, ?_, ?_, ?_, fun g hg => ?_⟩
  · have en : ∀ i, i < 24 → num (wpn w np e a g p c m x) i = num w i := fun i hi => o _ (by omega) (by omega)
    rw [en i1 hi1, en i2 hi2] at hn1
    refine h.one i1 i2 hi1 hi2 ?_ hn1
    unfold lie at *; rw [← en i1 hi1]; exact hl1
  · by_cases c' : p' = np
    · rw [c']
      unfold POK
      have i0 : wpn w np e a g p c m x (1257 + 8 * np) = pvl e a g p c m x (slq w e a) 0 := wpn_i (f := 0) (by omega)
      rw [i0, wpn_i (f := 1) (by omega), wpn_i (f := 2) (by omega), wpn_i (f := 4) (by omega), wpn_i (f := 7) (by omega)]
      exact ⟨⟨e, he.1, he.2, rfl⟩, ⟨a, ha, rfl⟩, ⟨g, hg, rfl⟩, ⟨c, hc.1, hc.2, rfl⟩, slq_v h.wall he ha⟩
    · exact (h.pln p' (by omega)).c (fun x _ _ => o x (by omega) (by omega))
  · rw [o _ (by omega) (by omega)]; exact h.mono
  · rw [o _ (by omega) (by omega)]; exact h.wall
  · rw [o _ (by omega) (by omega)]; exact h.base
  · rw [o _ (by omega) (by omega)]; exact h.cap
  · rw [o _ (by omega) (by omega)]; exact h.jit
  · rw [o _ (by omega) (by omega)]; exact h.lim
  · rw [o _ (by omega) (by omega)]; exact h.par g hg
theorem zB.newP (h : zB S t w π ns np cm nl) (hp : np < 4) (he : 1 ≤ e ∧ e ≤ 60) (ha : a ≤ 59) (hg : g < 6) (hc : 1 ≤ c ∧ c ≤ 9) (o : ∀ a b, ow t a b → ¬ (9 ≤ a ∧ a ≤ 12) → ¬ (a = 25 ∧ b = 4 * t + np) → ¬ (a = 13 ∧ b = t) → S'.1 a b = S.1 a b) (o13 : ∀ f, f ≠ 8 → S'.1 13 t f = S.1 13 t f) (c8 : S'.1 13 t 8 = nI (np + 1)) (row : ∀ f, f < 8 → S'.1 25 (4 * t + np) f = pvl e a g p c m x (slq w e a) f) (r : S'.2 14 t = S.2 14 t) : zB S' t (wpn w np e a g p c m x) π ns (np + 1) cm nl := by
  obtain ⟨hT, hO, hW, hZ⟩ := h
  have hn := hW.hns.1
  have hlen := hO.len
  have wo : ∀ z, z ≠ 1 → (z < 1257 + 8 * np ∨ 1265 + 8 * np ≤ z) → wpn w np e a g p c m x z = w z := fun z a b => wpn_o a b
  refine ⟨⟨by rw [o13 6 (by omega)]; exact hT.size, by unfold zRef; rw [r]; exact hT.ref, hT.job.c hO hn r (fun i hi => o _ _ (by have := hT.ref.1 i (by omega); unfold ow; omega) (by omega) (by omega) (by omega)) (fun i hi d hd => o _ _ (by have := hT.ref.1 i (by omega); unfold ow; omega) (by omega) (by omega) (by omega)) (fun z _ _ => wo z (by omega) (by omega)) (fun s _ => wo _ (by omega) (by omega)) (fun z _ _ => wo z (by omega) (by omega)), ⟨fun f hf => ?_, fun g hg => ?_, fun g hg => ?_⟩, hT.ses.c hn (fun s _ => o _ _ (by unfold ow; omega) (by omega) (by omega) (by omega)) (fun s _ k _ _ => o _ _ (by unfold ow; omega) (by omega) (by omega) (by omega)) (fun z _ _ => wo z (by omega) (by omega)), fun p' hp' f hf => ?_, hT.log.c hW.hnl.1 (o _ _ (by unfold ow; omega) (by omega) (by omega) (by omega)) (o _ _ (by unfold ow; omega) (by omega) (by omega) (by omega)) (fun z _ _ => wo z (by omega) (by omega))⟩, hO.c (fun j _ => wo _ (by omega) (by omega)), hW.newP hp he ha hg hc, hZ.c hn (fun j _ => ⟨wo _ (by omega) (by omega), wo _ (by omega) (by omega)⟩) (fun s _ => wo _ (by omega) (by omega)) (fun z _ _ => wo z (by omega) (by omega))⟩
  · by_cases q : f = 1
    · rw [q, wpn_1]; exact c8
    · rw [o13 _ (by omega), wo _ q (by omega)]; exact hT.sca.1 f hf
  · rw [o 18 t (by unfold ow; omega) (by omega) (by omega) (by omega), wo _ (by omega) (by omega)]; exact hT.sca.2.1 g hg
  · rw [o 17 t (by unfold ow; omega) (by omega) (by omega) (by omega), wo _ (by omega) (by omega)]; exact hT.sca.2.2 g hg
  · by_cases q : p' = np
    · rw [q, row f hf, wpn_i hf]
    · rw [o 25 _ (by unfold ow; omega) (by omega) (by omega) (by omega), wo _ (by omega) (by omega)]; exact hT.pln p' (by omega) f hf
/-- a new job's due is set -/
theorem zB.dueN {pr : Int32} {co d0 d q : Nat} (b : zB S t (wnew w j 3 1 (nI g) pr (nI co) (w 3)) (π ++ [j]) ns np cm nl) (hj : j < 24) (hq : q = S.2 14 t π.length) (hd : d ≤ 10107) (hS : S' = uI S 22 (6 * q) 1 (nI d)) : zB S' t (wnew w j 3 1 (nI g) pr (nI co) (nI d)) (π ++ [j]) ns np cm nl := by
  have hW := b.2.2.1
  have hn := hW.hns.1
  have hi : π.length < (π ++ [j]).length := by rw [List.length_append, List.length_singleton]; omega
  have hpl : pl (π ++ [j]) π.length = j := pl_last
  have o : ∀ a b, ¬ (a = 22 ∧ b = 6 * q) → S'.1 a b = S.1 a b := fun a b z => by rw [hS]; exact uI_other z
  have r8 : S'.2 = S.2 := by rw [hS]; rfl
  have f22 : ∀ f, f ≠ 1 → S'.1 22 (6 * q) f = S.1 22 (6 * q) f := fun f z => by rw [hS]; exact uI_nc (by omega)
  have f1 : S'.1 22 (6 * q) 1 = nI d := by rw [hS]; exact uI_at
  have eo : ∀ z, z ≠ 21 + 47 * j + 3 + 5 → wnew w j 3 1 (nI g) pr (nI co) (nI d) z = wnew w j 3 1 (nI g) pr (nI co) (w 3) z := fun z hz => by
    unfold wnew
    split
    · rfl
    · split
      · unfold nwc nwv
        rename_i h2
        split
        · rfl
        · split
          · rfl
          · split
            · rfl
            · split
              · have : ¬ (z - (21 + 47 * j) - 3 = 5) := by omega
                simp only [this, if_false]
              · rfl
      · rfl
  have e5 : wnew w j 3 1 (nI g) pr (nI co) (nI d) (21 + 47 * j + 3 + 5) = nI d := by rw [wnew_v (by omega) (by omega) (by omega)]; rfl
  obtain ⟨a1, a2, a3, a4, a5⟩ := (b.1.job _ hi).1
  rw [← hq, hpl] at a1 a2 a3 a4 a5
  have el : lkr (wnew w j 3 1 (nI g) pr (nI co) (nI d)) j = -1 := wnew_lkr
  have e21 : S'.1 21 q = S.1 21 q := o _ _ (by omega)
  refine ⟨b.1.upd b.2.1 hn hW.hnp.1 hW.hnl.1 hi (fun k a _ c2 => o k a (fun z => c2 ⟨z.1, by rw [← hq, z.2]; omega⟩)) r8 (fun z hz => by rw [hpl] at hz; exact eo z (by omega)) ?_ ?_, b.2.1.c (fun x _ => eo _ (by omega)), ?_, b.2.2.2.c hn (fun x _ => ⟨eo _ (by omega), eo _ (by omega)⟩) (fun s _ => eo _ (by omega)) (fun z _ _ => eo z (by omega))⟩
  · rw [← hq, hpl]
    refine ⟨by rw [e21, a1]; exact (eo _ (by omega)).symm, by rw [e21, a2]; exact (eo _ (by omega)).symm, by rw [e21, a3]; exact (eo _ (by omega)).symm, fun _ f hf => ?_, fun z => absurd el z⟩
    by_cases c5 : f = 5
    · subst c5
      rw [e5]; exact f1
    · have ec : cJ S' q (6 * q) f = cJ S q (6 * q) f := by
        rcases f_cases f with rfl | rfl | rfl | rfl | rfl | rfl | rfl | rfl | rfl | rfl | rfl | rfl | rfl | ⟨k, rfl⟩ <;> simp only [cJ, e21] <;> first | rfl | exact f22 _ (by omega) | exact absurd rfl c5 | rw [f22 _ (by omega)]
      rw [ec, a4 wnew_1 f hf]
      exact (eo _ (by omega)).symm
  · rw [← hq, hpl]
    intro s k hs hk' hlk _
    rw [el] at hlk
    exact absurd hlk.symm (ni_m1 (by omega))
  · refine hW.slot (fun z hz => eo z (by omega)) hj ?_ (Or.inl (eo _ (by omega)))
    rcases hW.job j hj with z | ⟨z1, z2, z3, z4, z5, z6⟩
    · exact Or.inl ((eo _ (by omega)).trans z)
    · have q1 := eo (21 + 47 * j + 1) (by omega)
      have q0 : num (wnew w j 3 1 (nI g) pr (nI co) (nI d)) j = num (wnew w j 3 1 (nI g) pr (nI co) (w 3)) j := eo _ (by omega)
      have q2 : lkr (wnew w j 3 1 (nI g) pr (nI co) (nI d)) j = lkr (wnew w j 3 1 (nI g) pr (nI co) (w 3)) j := eo _ (by omega)
      refine Or.inr ⟨by rw [q0]; exact z1, by rw [q1]; exact z2, by rw [q1, q2]; exact z3, by rw [q2]; exact z4, fun z => ?_, fun z => absurd wnew_lkr z⟩
      have v := (z5 wnew_1).due hd
      refine v.c (fun f hf => ?_)
      by_cases c5 : f = 5
      · rw [c5, up_eq, e5]
      · rw [up_ne (by omega)]; exact eo _ (by omega)
end CS
end PU72
