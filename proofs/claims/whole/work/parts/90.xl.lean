section PU10
/-! THE CLASS: a job is locked; a field of its own version is written -/
def vf (mf : Nat) : Nat := if mf = 3 then 0 else if mf = 5 then 1 else if mf = 6 then 2 else if mf = 7 then 3 else if mf = 8 then 5 else if mf = 9 then 6 else 7
def okf (mf : Nat) : Prop := mf = 3 ∨ mf = 5 ∨ mf = 6 ∨ mf = 7 ∨ mf = 8 ∨ mf = 9 ∨ mf = 10
theorem f_cases (f : Nat) : f = 0 ∨ f = 1 ∨ f = 2 ∨ f = 3 ∨ f = 4 ∨ f = 5 ∨ f = 6 ∨ f = 7 ∨ f = 8 ∨ f = 9 ∨ f = 10 ∨ f = 11 ∨ f = 12 ∨ ∃ k, f = k + 13 := by
  by_cases h : f < 13
  · omega
  · exact Or.inr (Or.inr (Or.inr (Or.inr (Or.inr (Or.inr (Or.inr (Or.inr (Or.inr (Or.inr (Or.inr (Or.inr (Or.inr ⟨f - 13, by omega⟩))))))))))))
theorem cJ_put {S : sSt} {q v mf : Nat} {x : Int32} (h : okf mf) (f : Nat) : cJ (uI S 22 v (vf mf) x) q v f = if f = mf then x else cJ S q v f := by
  have e0 : ∀ y, (uI S 22 v (vf mf) x).1 21 q y = S.1 21 q y := fun y => by simp [uI]
  have e1 : ∀ y, (uI S 22 v (vf mf) x).1 22 v y = if y = vf mf then x else S.1 22 v y := fun y => by simp [uI]
  rcases f_cases f with rfl | rfl | rfl | rfl | rfl | rfl | rfl | rfl | rfl | rfl | rfl | rfl | rfl | ⟨k, rfl⟩ <;> simp only [cJ, e0, e1] <;> rcases h with rfl | rfl | rfl | rfl | rfl | rfl | rfl <;> first | rfl | (simp [vf])
section XL
variable {S S' : sSt} {t : Nat} {w w' : Wd} {π : List Nat} {ns np cm nl i : Nat}
/-- a field of its own version is written -/
theorem zT.own (hT : zT S t w π ns np nl) (hO : zOrd w π) (hn : ns ≤ 4) (hp : np ≤ 4) (hl : nl ≤ 60) (hi : i < π.length) {mf : Nat} (hf : okf mf) (v : Int32) : zT (uI S 22 (6 * S.2 14 t i + 1) (vf mf) v) t (va_up w (21 + 47 * (pl π i) + 25 + mf) v) π ns np nl := by
  have hm : mf < 22 := by unfold okf at hf; omega
  have hm3 : 3 ≤ mf := by unfold okf at hf; omega
  have hj4 := hO.at hi
  refine hT.upd hO hn hp hl hi (fun k a h1 h2 => uI_other (fun c => h2 ⟨c.1, by omega⟩)) rfl (fun x hx => up_ne (by omega)) ?_ ?_
  · obtain ⟨a1, a2, a3, a4, a5⟩ := (hT.job i hi).1
    have e21 : (uI S 22 (6 * S.2 14 t i + 1) (vf mf) v).1 21 (S.2 14 t i) = S.1 21 (S.2 14 t i) := uI_other (by omega)
    have e22 : (uI S 22 (6 * S.2 14 t i + 1) (vf mf) v).1 22 (6 * S.2 14 t i) = S.1 22 (6 * S.2 14 t i) := uI_other (by omega)
    unfold JR num lkr at *
    rw [e21, up_ne (by omega), up_ne (by omega), up_ne (by omega)]
    refine ⟨a1, a2, a3, fun c f hf' => ?_, fun c f hf' => ?_⟩
    · rw [cJ.c e21 e22, up_ne (by omega)]; exact a4 c f hf'
    · rw [cJ_put hf]
      by_cases e : f = mf
      · rw [if_pos e, e, up_eq]
      · rw [if_neg e, up_ne (by omega)]; exact a5 c f hf'
  · exact (hT.job i hi).2.c (hO.at hi) hn (uI_other (by omega)) (fun d hd => uI_other (by omega)) (up_ne (by omega)) (fun s _ => up_ne (by omega)) (fun x _ _ => up_ne (by omega))
theorem wlk_same {j : Nat} {s : Int32} (h : lkr w j = s) : wlk w j s = w := by
  unfold wlk
  rw [if_pos h]
  funext x
  by_cases c : x = 21 + 47 * j + 2
  · rw [c, up_eq, ← h]; rfl
  · rw [up_ne c]
theorem wlk_out {j : Nat} {s : Int32} {x : Nat} (h : x < 21 + 47 * j + 2 ∨ 21 + 47 * j + 47 ≤ x) : wlk w j s x = w x := by
  unfold wlk
  rw [up_ne (by omega)]
  split
  · rfl
  · exact cp_out (by omega)
theorem wlk_lk {j : Nat} {s : Int32} : lkr (wlk w j s) j = s := up_eq
theorem wlk_tab {j : Nat} {s : Int32} {f : Nat} (hf : f < 22) : wlk w j s (21 + 47 * j + 3 + f) = w (21 + 47 * j + 3 + f) := by
  unfold wlk
  rw [up_ne (by omega)]
  split
  · rfl
  · exact cp_out (by omega)
theorem wlk_own {j : Nat} {s : Int32} {f : Nat} (hf : f < 22) (h : lkr w j ≠ s) : wlk w j s (21 + 47 * j + 25 + f) = w (21 + 47 * j + 3 + f) := by
  unfold wlk
  rw [up_ne (by omega), if_neg h, cp_in (by omega) (by omega)]
  congr 1; omega
theorem wlk_ord (hO : zOrd w π) {j : Nat} {s : Int32} : zOrd (wlk w j s) π := hO.c (fun j' _ => wlk_out (by omega))
/-- a job that no other one has locked is locked -/
theorem x_lockFor (hT : zT S t w π ns np nl) (hO : zOrd w π) (hW : WF w ns np cm nl) (hZ : WS w ns) (hi : i < π.length) {s : Nat} (hs : s < ns) (ho : oth w (pl π i) (nI s) = false) {k : Nat → sSt → Prop} (h : ∀ S', zT S' t (wlk w (pl π i) (nI s)) π ns np nl → KP t S S' → S'.2 = S.2 → (∀ a, 9 ≤ a → a ≤ 12 → S'.1 a = S.1 a) → k (6 * S.2 14 t i + 1) S') : F_X1_lockFor (S.2 14 t i) (nI s) S k := by
  have hn := hW.hns.1
  have hp := hW.hnp.1
  have hl := hW.hnl.1
  have hj4 := hO.at hi
  have hr := hT.ref.1 i (by have := hO.len; omega)
  obtain ⟨b1, b2, b3, b4, b5⟩ := (hT.job i hi).1
  have hlk : lkr w (pl π i) = -1 ∨ lkr w (pl π i) = nI s := by
    unfold oth at ho
    by_cases c : lkr w (pl π i) = -1
    · exact Or.inl c
    · right; simpa [c] using ho
  rw [F_X1_lockFor]
  rw [b3]
  refine ⟨fun c => ?_, fun c => ?_⟩
  · have e := hlk.resolve_left c
    refine h S ?_ KP.rfl rfl (fun _ _ _ => rfl)
    rw [wlk_same e]; exact hT
  · have hne : lkr w (pl π i) ≠ nI s := by rw [c]; exact fun z => ni_m1 (n := s) (by omega) z.symm
    have hin : w (21 + 47 * (pl π i) + 1) = 1 := by
      rcases hW.job _ hj4 with q | ⟨_, _, q2, _⟩
      · exact absurd q (lie_n (hO.la hi))
      · exact q2.resolve_right (fun z => z c)
    refine x_copyV (fun S1 g1 g2 g3 => ?_)
    rintro S2 rfl S3 rfl
    have e22 : ∀ v, (uI (uI S1 21 (S.2 14 t i) 3 0) 21 (S.2 14 t i) 4 (nI s)).1 22 v = S1.1 22 v := fun v => by rw [uI_other (by omega), uI_other (by omega)]
    have eo : ∀ a b, ¬ (a = 21 ∧ b = S.2 14 t i) → ¬ (a = 22 ∧ b = 6 * S.2 14 t i + 1) → (uI (uI S1 21 (S.2 14 t i) 3 0) 21 (S.2 14 t i) 4 (nI s)).1 a b = S.1 a b := by
      intro a b c1 c2
      rw [uI_other (by omega), uI_other (by omega), g2 a b c2]
    have e21 : ∀ f, f ≠ 3 → f ≠ 4 → (uI (uI S1 21 (S.2 14 t i) 3 0) 21 (S.2 14 t i) 4 (nI s)).1 21 (S.2 14 t i) f = S.1 21 (S.2 14 t i) f := by
      intro f c3 c4
      rw [← g2 21 (S.2 14 t i) (by omega)]
      simp [uI, c3, c4]
    have e214 : (uI (uI S1 21 (S.2 14 t i) 3 0) 21 (S.2 14 t i) 4 (nI s)).1 21 (S.2 14 t i) 4 = nI s := by simp [uI]
    have e213 : (uI (uI S1 21 (S.2 14 t i) 3 0) 21 (S.2 14 t i) 4 (nI s)).1 21 (S.2 14 t i) 3 = 0 := by simp [uI]
    refine h _ (hT.upd hO hn hp hl hi (fun k a h1 h2 => ?_) g3 (fun x hx => ?_) ⟨?_, ?_, ?_, fun q f hf => ?_, fun q f hf => ?_⟩ ?_) ⟨fun a b c1 => ?_, fun a b _ => ?_⟩ g3 (fun a q1 q2 => ?_)
    · exact eo k a h1 (fun c => h2 ⟨c.1, by omega⟩)
    · exact wlk_out (by omega)
    · rw [e21 6 (by omega) (by omega), b1]; unfold num; rw [wlk_out (by omega)]
    · rw [e21 5 (by omega) (by omega), b2, wlk_out (by omega)]
    · rw [e214, wlk_lk]
    · rw [wlk_tab hf, ← b4 hin f hf]
      have q0 : (uI (uI S1 21 (S.2 14 t i) 3 0) 21 (S.2 14 t i) 4 (nI s)).1 22 (6 * S.2 14 t i) = S.1 22 (6 * S.2 14 t i) := eo _ _ (by omega) (by omega)
      rcases f_cases f with rfl | rfl | rfl | rfl | rfl | rfl | rfl | rfl | rfl | rfl | rfl | rfl | rfl | ⟨k, rfl⟩ <;> simp only [cJ, q0] <;> first | rfl | exact e21 _ (by omega) (by omega)
    · rw [wlk_own hf hne, ← b4 hin f hf]
      have q0 : ∀ y, (uI (uI S1 21 (S.2 14 t i) 3 0) 21 (S.2 14 t i) 4 (nI s)).1 22 (6 * S.2 14 t i + 1) y = if y < 8 then S.1 22 (6 * S.2 14 t i) y else S.1 22 (6 * S.2 14 t i + 1) y := fun y => by rw [e22, g1]
      rcases f_cases f with rfl | rfl | rfl | rfl | rfl | rfl | rfl | rfl | rfl | rfl | rfl | rfl | rfl | ⟨k, rfl⟩ <;> simp only [cJ, q0] <;> first | rfl | exact e21 _ (by omega) (by omega)
    · intro s' k hs' hk hlk' hsv
      rw [wlk_lk] at hlk'
      have ess : s = s' := (nI_eq (by omega) (by omega)).mp hlk'
      subst ess
      have e1 : svb (uI (uI S1 21 (S.2 14 t i) 3 0) 21 (S.2 14 t i) 4 (nI s)) (S.2 14 t i) k = false := by
        unfold svb
        rw [e213]
        have : ∀ k, k < 4 → ¬ ((((0 : Int32) >>> (nI k &&& 31)) &&& 1) = 1) := by decide
        simp [this k hk]
      rw [e1]
      refine ⟨?_, fun z => absurd z (by decide)⟩
      rw [wlk_out (by unfold svp; omega)]
      symm
      rw [decide_eq_false_iff_not]
      intro z
      rw [wlk_out (by omega)] at hsv
      have := (hZ s k (pl π i) hs hk hj4 hsv z).2.1
      exact hne this
    · refine eo a b (fun q => c1 ?_) (fun q => c1 ?_)
      · unfold ow; omega
      · unfold ow; omega
    · rw [show (uI (uI S1 21 (S.2 14 t i) 3 0) 21 (S.2 14 t i) 4 (nI s)).2 = S.2 from g3]
    · funext b; exact eo _ _ (by omega) (by omega)
end XL
end PU10
