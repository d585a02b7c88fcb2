section PU24
section XF
variable {S S0 S' : sSt} {t : Nat} {w w' : Wd} {π : List Nat} {ns np cm nl i : Nat}
/-- its own version is written anew -/
theorem zQ.upd (h : zQ S0 S t w π ns np cm nl i) (hS : ∀ a b, ¬ (a = 22 ∧ b = 6 * S0.2 14 t i + 1) → S'.1 a b = S.1 a b) (h2 : S'.2 = S.2) (hw : ∀ x, ¬ (21 + 47 * pl π i + 25 ≤ x ∧ x < 21 + 47 * pl π i + 47) → w' x = w x) (hc : ∀ f, f < 22 → cJ S' (S0.2 14 t i) (6 * S0.2 14 t i + 1) f = w' (21 + 47 * pl π i + 25 + f)) (hv : VOK w' (21 + 47 * pl π i + 25)) : zQ S0 S' t w' π ns np cm nl i := by
  obtain ⟨⟨hT, hO, hW, hZ⟩, ⟨k1, k2, k3⟩, hk, hi⟩ := h
  have hlen := hO.len
  have hn := hW.hns.1
  have hj4 := hO.at hi
  have hr : S0.2 14 t i / 24 = t := by rw [← k2]; exact hT.ref.1 i (by omega)
  have e21 : S'.1 21 (S.2 14 t i) = S.1 21 (S.2 14 t i) := hS _ _ (by omega)
  have hJ := (hT.job i hi).1
  have hZ1 := (hT.job i hi).2
  refine ⟨⟨hT.upd hO hn hW.hnp.1 hW.hnl.1 hi (fun k a q1 q2 => hS k a (fun c => q2 ⟨c.1, by rw [k2]; omega⟩)) h2 (fun x hx => hw x (by omega)) ?_ ?_, hO.c (fun j _ => hw _ (by omega)), ?_, hZ.c hn (fun j _ => ⟨hw _ (by omega), hw _ (by omega)⟩) (fun s _ => hw _ (by omega)) (fun x _ _ => hw x (by omega))⟩, ⟨⟨fun a b q => ?_, fun a b q => by rw [h2]; exact k1.2 a b q⟩, h2.trans k2, fun a q1 q2 => ?_⟩, ?_, hi⟩
  · obtain ⟨a1, a2, a3, a4, a5⟩ := hJ
    unfold JR num lkr at *
    rw [e21, hw _ (by omega), hw _ (by omega), hw _ (by omega)]
    refine ⟨a1, a2, a3, fun c f hf => ?_, fun c f hf => ?_⟩
    · rw [cJ.c e21 (hS _ _ (by omega)), hw _ (by omega)]; exact a4 c f hf
    · rw [k2]; exact hc f hf
  · exact hZ1.c hj4 hn e21 (fun d hd => hS _ _ (by rw [k2]; omega)) (hw _ (by omega)) (fun s _ => hw _ (by omega)) (fun x _ _ => hw x (by omega))
  · refine hW.slot (fun x hx => hw x (by omega)) hj4 ?_ (Or.inl (hw _ (by omega)))
    rcases hW.job _ hj4 with q | ⟨q0, q1, q2, q3, q4, q5⟩
    · exact absurd q (lie_n (hO.la hi))
    · unfold JOK num lkr at *
      rw [hw _ (by omega), hw _ (by omega), hw _ (by omega)]
      exact Or.inr ⟨q0, q1, q2, q3, fun c => (q4 c).c (fun f hf => hw _ (by omega)), fun _ => hv⟩
  · rw [hS a b (fun c => q (by rw [c.1, c.2]; exact ow_own hr))]; exact k1.1 a b q
  · rw [← k3 a q1 q2]; funext b; exact hS a b (by omega)
  · unfold lkr at *; rw [hw _ (by omega)]; exact hk
theorem VOK.fails {j T B C L J x mo : Nat} {c : Nat} (h : VOK w (21 + 47 * j + 25)) (h3 : w (21 + 47 * j + 25 + 3) ≠ 3) (hc : c < 7) (eT : w (21 + 47 * j + 25 + 6) + 1 = nI T) (hT : T ≤ 9) (hL : w 13 = nI L) (hL9 : L ≤ 9) (hC : C ≤ 99) (hJ : J ≤ 9) (eJ : w 12 = nI J) (hm : mo ≤ 9999) (em : w 3 = nI mo) (hx : x < 1000000) (ex : num w j = nI x) : VOK (wfl w j (nI c) B C T) (21 + 47 * j + 25) := by
  obtain ⟨p, hp⟩ : ∃ p, p = 21 + 47 * j + 25 := ⟨_, rfl⟩
  obtain ⟨⟨g, a1, a2⟩, ⟨co, b1, b2, b3⟩, ⟨st, c1, c2⟩, ⟨d, d1, d2⟩, ⟨n, e1, e2, e3⟩, ⟨m, f1, f2⟩, hk⟩ := h
  rw [← hp] at a2 b3 c2 d2 e2 e3 f2 hk h3 eT ⊢
  have hp14 : p > 14 := by omega
  have w13 : wf4 w p (nI c) 13 = nI L := (wf4_out (by omega)).trans hL
  have w6 : wf4 w p (nI c) (p + 6) = nI T := wf4_6.trans eT
  have g4 : VOK (va_up (wf4 w p (nI c)) (p + 3) 3) p ∧ (T < L → VOK (va_up (va_up (wf4 w p (nI c)) (p + 3) 0) (p + 5) (w 3 + wtv w B C T (num w j))) p) := by
    have k7 : ∃ m, m ≤ 9 ∧ wf4 w p (nI c) (p + 7) = nI m := by
      rw [wf4_7, f2, nI_1, show (9 : Int32) = nI 9 from rfl]
      by_cases q : m + 1 < 9
      · rw [if_pos ((nI_ltI (by omega) (by omega)).mpr q)]; exact ⟨m + 1, by omega, rfl⟩
      · rw [if_neg (fun z => q ((nI_ltI (by omega) (by omega)).mp z))]; exact ⟨9, by omega, rfl⟩
    have kc : ∀ k, k < 9 → ∃ c', c' < 7 ∧ wf4 w p (nI c) (p + 13 + k) = nI c' := by
      intro k hk9
      cases k with
      | zero => exact ⟨c, hc, wf4_13⟩
      | succ k => rw [wf4_c (by omega)]; exact hk k (by omega)
    obtain ⟨m7, m71, m72⟩ := k7
    refine ⟨⟨⟨g, a1, ?_⟩, ⟨co, b1, b2, ?_⟩, ⟨3, by omega, up_eq⟩, ⟨d, d1, ?_⟩, ⟨T, hT, ?_, fun _ => up_eq⟩, ⟨m7, m71, ?_⟩, fun k hk9 => ?_⟩, fun hTL => ⟨⟨g, a1, ?_⟩, ⟨co, b1, b2, ?_⟩, ⟨0, by omega, ?_⟩, ⟨mo + (wtb B C T + (7 * x + 3 * T) % (J + 1)), ?_, ?_⟩, ⟨T, hT, ?_, fun q => by omega⟩, ⟨m7, m71, ?_⟩, fun k hk9 => ?_⟩⟩
    · rw [up_ne (by omega), wf4_out (by omega)]; exact a2
    · rw [up_ne (by omega), wf4_out (by omega)]; exact b3
    · rw [up_ne (by omega), wf4_out (by omega)]; exact d2
    · rw [up_ne (by omega)]; exact w6
    · rw [up_ne (by omega)]; exact m72
    · rw [up_ne (by omega)]; exact kc k hk9
    · rw [up_ne (by omega), up_ne (by omega), wf4_out (by omega)]; exact a2
    · rw [up_ne (by omega), up_ne (by omega), wf4_out (by omega)]; exact b3
    · rw [up_ne (by omega), up_eq]; rfl
    · have := wtb_le (B := B) (T := T) hC
      have h2 : (7 * x + 3 * T) % (J + 1) < J + 1 := Nat.mod_lt _ (by omega)
      omega
    · rw [up_eq, ex, wtv_is hJ eJ hx hT, em, nI_add]
    · rw [up_ne (by omega), up_ne (by omega)]; exact w6
    · rw [up_ne (by omega), up_ne (by omega)]; exact m72
    · rw [up_ne (by omega), up_ne (by omega)]; exact kc k hk9
  rw [wfl_is hp, w6, w13]
  split
  · exact g4.1
  · rename_i q
    refine g4.2 ?_
    by_cases z : T < L
    · exact z
    · exact absurd (Or.inr (fun y => z ((nI_ltI (by omega) (by omega)).mp y))) q
theorem tries_is (h : VOK w (21 + 47 * pl π i + 25)) (h3 : w (21 + 47 * pl π i + 25 + 3) ≠ 3) : ∃ T, T ≤ 9 ∧ 1 ≤ T ∧ w (21 + 47 * pl π i + 25 + 6) + 1 = nI T := by
  obtain ⟨-, -, -, -, ⟨n, n1, n2, n3⟩, -⟩ := h
  refine ⟨n + 1, ?_, by omega, by rw [n2, nI_1]⟩
  by_cases c : n = 9
  · exact absurd (n3 c) h3
  · omega
theorem x_recordFailure (h : zQ S0 S t w π ns np cm nl i) (h3 : w (21 + 47 * pl π i + 25 + 3) ≠ 3) {B C T L : Nat} (hB : B ≤ 9) (hC : C ≤ 99) (hT : T ≤ 9) (eB : w 10 = nI B) (eC : w 11 = nI C) (eT : w (21 + 47 * pl π i + 25 + 6) + 1 = nI T) (eL : w 13 = nI L) (hL9 : L ≤ 9) {c : Nat} (hc : c < 7) {k : sSt → Prop} (hk : ∀ S', zQ S0 S' t (wfl w (pl π i) (nI c) B C T) π ns np cm nl i → k S') : F_X6_recordFailure t (6 * S0.2 14 t i + 1) (num w (pl π i)) (nI c) S k := by
  have hq := h
  obtain ⟨⟨hT', hO, hW, hZ⟩, ⟨k1, k2, k3⟩, hlk, hi⟩ := hq
  have hlen := hO.len
  have hj4 := hO.at hi
  obtain ⟨J, hJ9, eJ⟩ := hW.jit
  obtain ⟨mo, hm9, em⟩ := hW.mono
  obtain ⟨x, hxc, ex⟩ := hW.nu hj4 (hO.la hi)
  have hcm := hW.hcm.1
  have hv := h.vok
  have hvw := hv.fails (B := B) (C := C) h3 hc eT hT eL hL9 hC hJ9 eJ hm9 em (show x < 1000000 by omega) ex
  obtain ⟨q, hq⟩ : ∃ q, q = S0.2 14 t i := ⟨_, rfl⟩
  rw [← hq]
  obtain ⟨p, hp⟩ : ∃ p, p = 21 + 47 * pl π i + 25 := ⟨_, rfl⟩
  have rv : ∀ f, f < 22 → cJ S q (6 * q + 1) f = w (p + f) := fun f hf => by rw [hq, hp]; exact h.rown hf
  have r2 : S.1 22 (6 * q + 1) 2 + 1 = nI T := by rw [show S.1 22 (6 * q + 1) 2 = w (p + 6) from rv 6 (by omega), hp]; exact eT
  have r3 : S.1 22 (6 * q + 1) 3 = w (p + 7) := rv 7 (by omega)
  have e18 : ∀ g, g < 5 → S.1 18 t g = w (9 + g) := fun g hg => hT'.sca.2.1 g hg
  rw [F_X6_recordFailure]
  intro S1 e1
  rw [F_X9_addCause]
  intro S2 e2 S3 e3
  rw [r2] at e1
  have a2 : S1.1 22 (6 * q + 1) 4 = S.1 22 (6 * q + 1) 4 := by rw [e1, uI_nc (by omega)]
  have a3 : S2.1 22 (6 * q + 1) 3 = w (p + 7) := by rw [e2, uI_nc (by omega), e1, uI_nc (by omega)]; exact r3
  rw [a2] at e2
  rw [a3] at e3
  have c3 : ∀ f, S3.1 22 (6 * q + 1) f = if f = 3 then (if 9 < w (p + 7) + 1 then 9 else w (p + 7) + 1) else if f = 4 then (((S.1 22 (6 * q + 1) 4 <<< ((3 : Int32) &&& 31)) ||| nI c) &&& 134217727) else if f = 2 then nI T else S.1 22 (6 * q + 1) f := by
    intro f
    rw [e3, e2, e1]
    simp only [uI, true_and]
  have o3 : ∀ a b, ¬ (a = 22 ∧ b = 6 * q + 1) → S3.1 a b = S.1 a b := fun a b z => by rw [e3, uI_other z, e2, uI_other z, e1, uI_other z]
  have r3' : S3.2 = S.2 := by rw [e3, e2, e1]; rfl
  have t3 : S3.1 22 (6 * q + 1) 2 = nI T := by rw [c3, if_neg (by omega), if_neg (by omega), if_pos rfl]
  have l3 : S3.1 18 t 4 = nI L := by rw [o3 18 t (by omega)]; exact (e18 4 (by omega)).trans eL
  have k7 : (if 9 < w (p + 7) + 1 then (9 : Int32) else w (p + 7) + 1) = if w (p + 7) + 1 < 9 then w (p + 7) + 1 else 9 := by
    obtain ⟨-, -, -, -, -, ⟨m, m1, m2⟩, -⟩ := hv
    rw [← hp] at m2
    rw [m2, nI_1, show (9 : Int32) = nI 9 from rfl]
    by_cases z1 : 9 < m + 1
    · rw [if_pos ((nI_ltI (by omega) (by omega)).mpr z1), if_neg (fun y => by have := (nI_ltI (by omega) (by omega)).mp y; omega)]
    · rw [if_neg (fun y => z1 ((nI_ltI (by omega) (by omega)).mp y))]
      by_cases z2 : m + 1 < 9
      · rw [if_pos ((nI_ltI (by omega) (by omega)).mpr z2)]
      · rw [if_neg (fun y => z2 ((nI_ltI (by omega) (by omega)).mp y))]; congr 1; omega
  have w13 : wf4 w p (nI c) 13 = nI L := (wf4_out (by omega)).trans eL
  have w6 : wf4 w p (nI c) (p + 6) = nI T := wf4_6.trans (by rw [hp]; exact eT)
  -- the fields but state and due
  have fields : ∀ (S' : sSt), (∀ f, f ≠ 0 → f ≠ 1 → S'.1 22 (6 * q + 1) f = S3.1 22 (6 * q + 1) f) → S'.1 21 q = S.1 21 q → ∀ f, f < 22 → f ≠ 3 → f ≠ 5 → cJ S' q (6 * q + 1) f = wf4 w p (nI c) (p + f) := by
    intro S' hf h21 f hf22 hf3 hf5
    have rvf := rv f hf22
    rcases f_cases f with rfl | rfl | rfl | rfl | rfl | rfl | rfl | rfl | rfl | rfl | rfl | rfl | rfl | ⟨y, rfl⟩
    · rw [wf4_out (by omega), ← rvf]; show S'.1 21 q 7 = _; rw [h21]; rfl
    · rw [wf4_out (by omega), ← rvf]; show S'.1 21 q 8 = _; rw [h21]; rfl
    · rw [wf4_out (by omega), ← rvf]; show S'.1 21 q 9 = _; rw [h21]; rfl
    · exact absurd rfl hf3
    · rw [wf4_out (by omega), ← rvf]; show S'.1 21 q 10 = _; rw [h21]; rfl
    · exact absurd rfl hf5
    · rw [w6]; show S'.1 22 (6 * q + 1) 2 = _; rw [hf 2 (by omega) (by omega)]; exact t3
    · rw [wf4_7]; show S'.1 22 (6 * q + 1) 3 = _; rw [hf 3 (by omega) (by omega), c3, if_pos rfl, k7]
    · rw [wf4_8 (by omega), ← rvf]; show S'.1 22 (6 * q + 1) 5 = _; rw [hf 5 (by omega) (by omega), c3, if_neg (by omega), if_neg (by omega), if_neg (by omega)]; rfl
    · rw [wf4_8 (by omega), ← rvf]; show S'.1 22 (6 * q + 1) 6 = _; rw [hf 6 (by omega) (by omega), c3, if_neg (by omega), if_neg (by omega), if_neg (by omega)]; rfl
    · rw [wf4_8 (by omega), ← rvf]; show S'.1 22 (6 * q + 1) 7 = _; rw [hf 7 (by omega) (by omega), c3, if_neg (by omega), if_neg (by omega), if_neg (by omega)]; rfl
    · rw [wf4_8 (by omega), ← rvf]; show S'.1 21 q 11 = _; rw [h21]; rfl
    · rw [wf4_8 (by omega), ← rvf]; show S'.1 21 q 12 = _; rw [h21]; rfl
    · show cz (S'.1 22 (6 * q + 1) 4) y = _
      rw [hf 4 (by omega) (by omega), c3, if_neg (by omega), if_pos rfl]
      cases y with
      | zero => rw [cz_push0 _ hc]; exact wf4_13.symm
      | succ y =>
        rw [cz_push _ hc (by omega), show p + (y + 1 + 13) = p + 13 + (y + 1) from by omega, wf4_c (by omega)]
        have := rv (y + 13) (by omega)
        rw [show p + (y + 13) = p + 13 + y from by omega] at this
        exact this
  have due3 : S3.1 22 (6 * q + 1) 1 = w (p + 5) := by rw [c3, if_neg (by omega), if_neg (by omega), if_neg (by omega)]; exact rv 5 (by omega)
  -- set aside
  have aside : ((nI c = 5 ∨ ¬ nI T < nI L)) → B_X6_recordFailure_33 (6 * q + 1) S3 k := by
    intro hcd
    rw [B_X6_recordFailure_33]
    intro S5 e5
    have hwf : wfl w (pl π i) (nI c) B C T = va_up (wf4 w p (nI c)) (p + 3) 3 := by
      rw [wfl_is hp, w6, w13, if_pos hcd]
    refine hk S5 (h.upd (fun a b z => ?_) ?_ (fun y hy => wfl_out hy) (fun f hf => ?_) hvw)
    · rw [← hq] at z; rw [e5, uI_other z, o3 a b z]
    · rw [e5]; exact r3'
    · rw [hwf, ← hq, ← hp]
      by_cases z3 : f = 3
      · rw [z3, up_eq]; show S5.1 22 (6 * q + 1) 0 = _; rw [e5, uI_at]
      · rw [up_ne (by omega)]
        by_cases z5 : f = 5
        · rw [z5, wf4_out (by omega)]; show S5.1 22 (6 * q + 1) 1 = _; rw [e5, uI_nc (by omega)]; exact due3
        · exact fields S5 (fun f z0 z1 => by rw [e5, uI_nc (by omega)]) (by rw [e5, uI_other (by omega)]; exact o3 _ _ (by omega)) f hf z3 z5
  refine ⟨fun z => aside (Or.inl z), fun z => ⟨fun z2 => ?_, fun z2 => aside (Or.inr (by rw [t3, l3] at z2; exact z2))⟩⟩
  rw [t3, l3] at z2
  intro S8 e8
  have t8 : S8.1 22 (6 * q + 1) 2 = nI T := by rw [e8, uI_nc (by omega)]; exact t3
  have o8 : ∀ g, g < 5 → S8.1 18 t g = w (9 + g) := fun g hg => by rw [e8, uI_other (by omega), o3 18 t (by omega)]; exact e18 g hg
  rw [t8]
  rw [x_waitOf ⟨J, hJ9, eJ⟩ hB hC hT ((o8 1 (by omega)).trans eB) ((o8 2 (by omega)).trans eC) (o8 3 (by omega))]
  intro S11 e11
  have m8 : S8.1 13 t 10 = w 3 := by rw [e8, uI_other (by omega), o3 13 t (by omega)]; exact hT'.sca.1 3 (by omega)
  rw [m8] at e11
  have hwf : wfl w (pl π i) (nI c) B C T = va_up (va_up (wf4 w p (nI c)) (p + 3) 0) (p + 5) (w 3 + wtv w B C T (num w (pl π i))) := by
    rw [wfl_is hp, w6, w13, if_neg (fun y => by
      rcases y with y | y
      · exact z y
      · exact y z2)]
  refine hk S11 (h.upd (fun a b z => ?_) ?_ (fun y hy => wfl_out hy) (fun f hf => ?_) hvw)
  · rw [← hq] at z; rw [e11, uI_other z, e8, uI_other z, o3 a b z]
  · rw [e11, e8]; exact r3'
  · rw [hwf, ← hq, ← hp]
    by_cases z5 : f = 5
    · rw [z5, up_eq]; show S11.1 22 (6 * q + 1) 1 = _; rw [e11, uI_at]
    · rw [up_ne (by omega)]
      by_cases z3 : f = 3
      · rw [z3, up_eq]; show S11.1 22 (6 * q + 1) 0 = _; rw [e11, uI_nc (by omega), e8, uI_at]
      · rw [up_ne (by omega)]
        exact fields S11 (fun f z0 z1 => by rw [e11, uI_nc (by omega), e8, uI_nc (by omega)]) (by rw [e11, uI_other (by omega), e8, uI_other (by omega)]; exact o3 _ _ (by omega)) f hf z3 z5
end XF
end PU24
