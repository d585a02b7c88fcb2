section PU54
/-! CALL passed. eqp: two worlds that differ at most in what a claim says of token, holder and until -/
def eqp (w w' : Wd) : Prop := ∀ x, x ≠ 5 → (∀ j, j < 24 → x ≠ 21 + 47 * j + 33 ∧ x ≠ 21 + 47 * j + 34 ∧ x ≠ 21 + 47 * j + 35) → w' x = w x
section EQ
variable {w w' : Wd} {ns np cm nl : Nat}
theorem eqp_num (h : eqp w w') : num w' = num w := funext fun j => h _ (by omega) (fun i hi => by omega)
theorem eqp_lkr (h : eqp w w') : lkr w' = lkr w := funext fun j => h _ (by omega) (fun i hi => by omega)
theorem eqp_lie (h : eqp w w') : lie w' = lie w := funext fun j => by unfold lie; rw [eqp_num h]
theorem eqp_isin (h : eqp w w') : isin w' = isin w := funext fun j => by unfold isin; rw [eqp_num h, h (21 + 47 * j + 1) (by omega) (fun i hi => by omega)]
theorem eqp_oth (h : eqp w w') : oth w' = oth w := funext fun j => funext fun s => by unfold oth; rw [eqp_lkr h]
theorem eqp_mine (h : eqp w w') : mine w' = mine w := funext fun j => funext fun s => by unfold mine; rw [eqp_lkr h]
theorem eqp_sees (h : eqp w w') : sees w' = sees w := funext fun j => funext fun s => by unfold sees; rw [eqp_lie h, eqp_mine h, eqp_isin h]
theorem eqp_ver (h : eqp w w') : ver w' = ver w := funext fun j => funext fun s => by unfold ver; rw [eqp_mine h]
theorem eqp_anyv (h : eqp w w') : anyv w' = anyv w := funext fun j => by unfold anyv; rw [eqp_isin h]
theorem eqp_vf (h : eqp w w') {j f : Nat} {s : Int32} (hf : f ≤ 7) : w' (ver w j s + f) = w (ver w j s + f) := by
  unfold ver; split
  · exact h _ (by omega) (fun i hi => by omega)
  · exact h _ (by omega) (fun i hi => by omega)
theorem eqp_v0 (h : eqp w w') {j : Nat} {s : Int32} : w' (ver w j s) = w (ver w j s) := eqp_vf h (f := 0) (by omega)
theorem eqp_av (h : eqp w w') {j : Nat} : w' (anyv w j) = w (anyv w j) := by
  unfold anyv; split
  · exact h _ (by omega) (fun i hi => by omega)
  · exact h _ (by omega) (fun i hi => by omega)
theorem eqp_grp (h : eqp w w') : grp w' = grp w := funext fun j => by unfold grp; rw [eqp_anyv h, eqp_av h]
theorem eqp_isof (h : eqp w w') : isof w' = isof w := funext fun j => funext fun g => by unfold isof; rw [eqp_lie h, eqp_anyv h, eqp_av h]
theorem eqp_stt (h : eqp w w') : stt w' = stt w := funext fun j => funext fun s => funext fun x => by unfold stt; rw [eqp_sees h, eqp_ver h, eqp_vf h (by omega)]
theorem eqp_lesser (h : eqp w w') : lesser w' = lesser w := funext fun j => funext fun s => by unfold lesser; rw [eqp_isof h, eqp_grp h, eqp_num h, eqp_stt h]
theorem eqp_taken (h : eqp w w') : taken w' = taken w := funext fun g => funext fun s => by unfold taken; rw [eqp_isof h, eqp_oth h, eqp_stt h]
theorem eqp_full (h : eqp w w') {g : Nat} (hg : g < 6) {s : Int32} : full w' g s = full w g s := by unfold full; rw [eqp_taken h, h (15 + g) (by omega) (fun i hi => by omega)]
theorem eqp_col (h : eqp w w') : col w' = col w := funext fun j => funext fun s => funext fun c => by
  unfold col
  rw [eqp_num h, eqp_ver h, eqp_v0 h, eqp_vf h (show 1 ≤ 7 by omega), eqp_vf h (show 2 ≤ 7 by omega), eqp_vf h (show 6 ≤ 7 by omega), eqp_vf h (show 4 ≤ 7 by omega), eqp_vf h (show 5 ≤ 7 by omega), h 3 (by omega) (fun i hi => by omega), h (1149 + 27 * s + 1) (by omega) (fun i hi => by omega)]
theorem eqp_asked (h : eqp w w') : asked w' = asked w := funext fun j => funext fun s => funext fun tc => by
  unfold asked
  refine congrArg (List.all _) (funext fun k => ?_)
  unfold asked1
  rw [eqp_col h, h (1149 + 27 * s + (6 + 3 * k) + 1) (by omega) (fun i hi => by omega), h (1149 + 27 * s + (6 + 3 * k)) (by omega) (fun i hi => by omega), h (1149 + 27 * s + (6 + 3 * k) + 2) (by omega) (fun i hi => by omega)]
theorem eqp_ahd (h : eqp w w') {a b s : Nat} : ∀ r k, ahd w' a b s k r = ahd w a b s k r := by
  intro r
  induction r with
  | zero => intro k; rw [ahd, ahd, eqp_num h]
  | succ r ih =>
    intro k
    rw [ahd, ahd, eqp_col h, ih, h (1149 + 27 * s + (19 + 2 * k)) (by omega) (fun i hi => by omega), h (1149 + 27 * s + (19 + 2 * k) + 1) (by omega) (fun i hi => by omega)]
theorem eqp_cnd (h : eqp w w') (hW : WF w ns np cm nl) {s tc j : Nat} (hj : j < 24) : cnd w' s tc j = cnd w s tc j := by
  unfold cnd mayc
  rw [eqp_stt h, eqp_oth h, h 3 (by omega) (fun i hi => by omega), eqp_ver h, eqp_vf h (show 5 ≤ 7 by omega), eqp_lesser h, eqp_grp h, eqp_asked h]
  cases c : lie w j
  · unfold stt sees; rw [c]; simp only [Bool.false_and]
  · obtain ⟨⟨g, hg6, hg⟩, -⟩ := hW.vok hj c
    have : (grp w j).toNatClampNeg = g := by unfold grp; rw [hg]; exact nI_clamp (by omega)
    rw [this, eqp_full h hg6]
theorem bst_cg {P P' : Nat → Bool} {A A' : Nat → Nat → Bool} (hA : ∀ a b, A a b = A' a b) : ∀ r i o, (∀ j, i ≤ j → j < i + r → P j = P' j) → bst P A o i r = bst P' A' o i r := by
  intro r
  induction r with
  | zero => intro i o _; rfl
  | succ r ih =>
    intro i o hP
    have : btr A i o = btr A' i o := by
      cases o
      · rfl
      · exact hA _ _
    rw [bst_s, bst_s, hP i (by omega) (by omega), this]
    exact ih _ _ (fun j a b => hP j (by omega) (by omega))
theorem eqp_fsto (h : eqp w w') (hW : WF w ns np cm nl) {s tc kc : Nat} : fsto w' s tc kc = fsto w s tc kc := by
  unfold fsto
  exact bst_cg (fun a b => eqp_ahd h _ _) 24 0 none (fun j _ hj => eqp_cnd h hW (by omega))
theorem eqp_wlk (h : eqp w w') {j : Nat} {s : Int32} : eqp (wlk w j s) (wlk w' j s) := by
  intro x h5 hx
  have e : lkr w' j = lkr w j := by rw [eqp_lkr h]
  unfold wlk
  by_cases c : x = 21 + 47 * j + 2
  · rw [c, up_eq, up_eq]
  · rw [up_ne c, up_ne c, e]
    split
    · exact h x h5 hx
    · by_cases d : 21 + 47 * j + 25 ≤ x ∧ x < 21 + 47 * j + 25 + 22
      · rw [cp_in d.1 d.2, cp_in d.1 d.2]
        exact h _ (by omega) (fun i hi => by omega)
      · rw [cp_out (by omega), cp_out (by omega)]; exact h x h5 hx
/-- one is claimed and finished, as the call passed has it -/
def wps (w : Wd) (j s : Nat) : Wd := va_up (va_up (wlk w j (nI s)) (21 + 47 * j + 25 + 3) 2) (1149 + 27 * s + 1) (va_up (wlk w j (nI s)) (21 + 47 * j + 25 + 3) 2 (21 + 47 * j + 25))
theorem wps_out {j s x : Nat} (h : x < 21 + 47 * j + 2 ∨ 21 + 47 * j + 47 ≤ x) (hl : x ≠ 1149 + 27 * s + 1) : wps w j s x = w x := by
  unfold wps
  rw [up_ne (by omega), up_ne (by omega), wlk_out (by omega)]
theorem eqp_hold (h : eqp w w') {j s : Nat} (hj : j < 24) : eqp (wps w j s) (va_up (whd w' j s) (21 + 47 * j + 25 + 3) (nI 2)) := by
  intro x h5 hx
  have hw := eqp_wlk h (j := j) (s := nI s)
  have hxj := hx j hj
  unfold wps whd
  simp only []
  by_cases c1 : x = 21 + 47 * j + 25 + 3
  · rw [c1, up_eq, up_ne (by omega), up_eq]; rfl
  · rw [up_ne c1]
    by_cases c2 : x = 1149 + 27 * s + 1
    · rw [c2, up_eq, up_eq, up_ne (by omega), up_ne (by omega), up_ne (by omega), up_ne (by omega), up_ne (by omega), up_ne (by omega)]
      exact hw _ (by omega) (fun i hi => by omega)
    · rw [up_ne c2, up_ne (by omega), up_ne (by omega), up_ne (by omega), up_ne (by omega), up_ne (by omega), up_ne c2, up_ne c1]
      exact hw x h5 hx
theorem WF.pass (h : WF w ns np cm nl) {j s : Nat} (hj : j < 24) (hs : s < ns) (hl : lie w j = true) (ho : oth w j (nI s) = false) (hst : w (ver w j (nI s) + 3) = 0) : WF (wps w j s) ns np cm nl := by
  have hn := h.hns.1
  have h1 := h.lock hj hs hl ho
  have st1 : wlk w j (nI s) (21 + 47 * j + 25 + 3) = 0 := by rw [wlk_ver (by omega) ho (by omega)]; exact hst
  have k1 : lkr (wlk w j (nI s)) j ≠ -1 := by rw [wlk_lk]; exact ni_m1 (by omega)
  have l1 : lie (wlk w j (nI s)) j = true := by unfold lie num at *; rw [wlk_out (by omega)]; exact hl
  unfold wps
  generalize wlk w j (nI s) = w2 at h1 st1 k1 l1
  have h3 : WF (va_up w2 (21 + 47 * j + 25 + 3) 2) ns np cm nl := h1.own hj (by omega) k1 l1 ((h1.vown hj l1 k1).state (x := 2) (by omega) (fun q => absurd q ((h1.vown hj l1 k1).t9 (by rw [st1]; decide))))
  have k3 : lkr (va_up w2 (21 + 47 * j + 25 + 3) 2) j ≠ -1 := by rw [lkr_up (by omega)]; exact k1
  have l3 : lie (va_up w2 (21 + 47 * j + 25 + 3) 2) j = true := by rw [lie_up (by omega)]; exact l1
  generalize va_up w2 (21 + 47 * j + 25 + 3) 2 = w6 at h3 k3 l3
  refine h3.sess hs (fun x hx => up_ne (by omega)) ?_
  obtain ⟨b1, b2, b3, b4, b5, b6⟩ := h3.ses s hs
  obtain ⟨⟨g, hg, hg'⟩, -⟩ := h3.vown hj l3 k3
  unfold SOK
  rw [up_ne (by omega), up_ne (by omega), up_eq, up_ne (by omega), up_ne (by omega), up_ne (by omega)]
  exact ⟨b1, b2, ⟨g, hg, hg'⟩, b4, b5, b6⟩
theorem cnt_one {P P' : Nat → Bool} {j N : Nat} (hp : P j = true) (hp' : P' j = false) (ho : ∀ i, i < N → i ≠ j → P' i = P i) : ∀ r i, i + r ≤ N → i ≤ j → j < i + r → (List.range' i r).countP P' + 1 = (List.range' i r).countP P := by
  have same : ∀ r i, i + r ≤ N → j < i → (List.range' i r).countP P' = (List.range' i r).countP P := fun r i hN hi => List.countP_congr (fun x hx => by
    rw [List.mem_range'_1] at hx
    rw [ho x (by omega) (by omega)])
  intro r
  induction r with
  | zero => intro i _ a b; omega
  | succ r ih =>
    intro i hN a b
    rw [List.range'_succ, List.countP_cons, List.countP_cons]
    by_cases c : i = j
    · rw [c, hp, hp', same r (j + 1) (by omega) (by omega)]; simp
    · rw [ho i (by omega) c]
      have := ih (i + 1) (by omega) (by omega) (by omega)
      omega
/-- how many there are that wait, as a session sees them -/
def wai (w : Wd) (s : Nat) : Nat := (List.range' 0 24).countP (fun i => stt w i (nI s) 0)
theorem wai_pass {j s : Nat} (hs : s < 4) (hj : j < 24) (hst : stt w j (nI s) 0 = true) : wai (wps w j s) s + 1 = wai w s := by
  refine cnt_one (j := j) (N := 24) hst ?_ (fun i hi hne => ?_) 24 0 (by omega) (by omega) (by omega)
  · have e : ver (wps w j s) j (nI s) = 21 + 47 * j + 25 := ver_own hs (by unfold lkr wps; rw [up_ne (by omega), up_ne (by omega)]; exact wlk_lk)
    have e2 : wps w j s (21 + 47 * j + 25 + 3) = 2 := by unfold wps; rw [up_ne (by omega), up_eq]
    unfold stt
    rw [e, e2]; simp
  · have o : ∀ f, f < 47 → wps w j s (21 + 47 * i + f) = w (21 + 47 * i + f) := fun f hf => wps_out (by omega) (by omega)
    have n0 : num (wps w j s) i = num w i := o 0 (by omega)
    have n2 : lkr (wps w j s) i = lkr w i := o 2 (by omega)
    have ev : ver (wps w j s) i (nI s) = ver w i (nI s) := by unfold ver mine; rw [n2]
    have es : sees (wps w j s) i (nI s) = sees w i (nI s) := by unfold sees mine isin lie; rw [n0, n2, o 1 (by omega)]
    have ex : wps w j s (ver w i (nI s) + 3) = w (ver w i (nI s) + 3) := by
      unfold ver; split
      · rw [show 21 + 47 * i + 25 + 3 = 21 + 47 * i + 28 from by omega]; exact o 28 (by omega)
      · rw [show 21 + 47 * i + 3 + 3 = 21 + 47 * i + 6 from by omega]; exact o 6 (by omega)
    show stt (wps w j s) i (nI s) 0 = stt w i (nI s) 0
    unfold stt
    rw [es, ev, ex]
theorem wai_fsto (hW : WF w ns np cm nl) {s tc kc : Nat} (h : wai w s = 0) : fsto w s tc kc = none := by
  cases hf : fsto w s tc kc with
  | none => rfl
  | some j =>
    obtain ⟨hj, -, -, hst, -⟩ := fsto_is hW hf
    unfold wai at h
    rw [List.countP_eq_zero] at h
    exact absurd hst (h j (by rw [List.mem_range'_1]; omega))
/-- how many are claimed before slot j0; -1: it isn't come to -/
def pas (s tc kc j0 : Nat) : Nat → Nat → Wd → Int32
  | 0, _, _ => -1
  | r + 1, c, w => match fsto w s tc kc with
    | none => -1
    | some j => if j = j0 then nI c else pas s tc kc j0 r (c + 1) (wps w j s)
theorem pas_n {s tc kc j0 r c : Nat} (h : fsto w s tc kc = none) : pas s tc kc j0 r c w = -1 := by
  cases r
  · rfl
  · rw [pas, h]
theorem pas_s {s tc kc j0 r c j : Nat} (h : fsto w s tc kc = some j) : pas s tc kc j0 (r + 1) c w = if j = j0 then nI c else pas s tc kc j0 r (c + 1) (wps w j s) := by
  rw [pas, h]
end EQ
section CS
variable {Sc Sc' Sm S' S : sSt} {l sp n t t' : Nat} {w w' : Wd} {π π' : List Nat} {ns np cm nl ns' np' cm' nl' : Nat}
theorem x_claimedAhead {s : Nat} (hs : s < ns) {tc kc : Nat} (ht4 : tc ≤ 4) (hk4 : kc ≤ 4) {a2 : Int32} {j0 : Nat} (hj0 : j0 < 24) : ∀ r c m (S : sSt) (w wm : Wd) (k : Int32 → sSt → Prop), c + r = 24 → r < m → zB S t w π ns np cm nl → eqp wm w → WF wm ns np cm nl → w (1149 + 27 * s + 5) = nI tc → w (1149 + 27 * s + 18) = nI kc → num w j0 = a2 → lie w j0 = true → (∀ S', KP t S S' → S'.2 = S.2 → k (pas s tc kc j0 r c wm) S') → B_X0_claimedAhead_2 m t (nI s) a2 (nI c) S k := by
  intro r
  induction r with
  | zero =>
    intro c m S w wm k hc hm h he hWm htc hkc hnm hl hk
    obtain ⟨m, rfl⟩ : ∃ z, m = z + 1 := ⟨m - 1, by omega⟩
    have e : c = 24 := by omega
    subst e
    simp only [B_X0_claimedAhead_2_s, Bb_X0_claimedAhead_2, show (24 : Int32) ≤ nI 24 from by decide, true_implies, not_true_eq_false, false_implies, and_true]
    exact hk S KP.rfl rfl
  | succ r ih =>
    intro c m S w wm k hc hm h he hWm htc hkc hnm hl hk
    obtain ⟨m, rfl⟩ : ∃ z, m = z + 1 := ⟨m - 1, by omega⟩
    have hlt : ¬ (24 : Int32) ≤ nI c := nI_ge (b := 24) (by omega) (by omega)
    have hn := h.2.2.1.hns.1
    have hlen := h.2.1.len
    have hfe : fsto w s tc kc = fsto wm s tc kc := eqp_fsto he hWm
    simp only [B_X0_claimedAhead_2_s, Bb_X0_claimedAhead_2, hlt, false_implies, true_and, not_false_eq_true, true_implies]
    refine x_placeToClaim h.1 h.2.1 h.2.2.1 hs ht4 htc hk4 hkc (fun hf => ?_) (fun i hi hf => ?_)
    · rw [hfe] at hf
      rw [pas_n hf] at hk
      exact ⟨fun q => absurd rfl q, fun _ => hk S KP.rfl rfl⟩
    · obtain ⟨hj, hcn, ho, hst, hlj⟩ := fsto_is h.2.2.1 hf
      have hf' := hf
      rw [hfe] at hf'
      rw [pas_s hf'] at hk
      simp only [ni_m1 (show i < 2147483648 by omega), false_implies, not_false_eq_true, true_implies, and_true]
      rw [ix_n (by omega) (by omega), x_num h.1 hi]
      refine ⟨fun hd => ?_, fun hd => ?_⟩
      · rw [if_neg (fun q => hd (by rw [q]; exact hnm))] at hk
        refine x_hold h hi hs ho hst (fun S10 h10 => ?_)
        intro S12 e12
        have st1 : whd w (pl π i) s (21 + 47 * pl π i + 25 + 3) = 1 := by
          unfold whd
          rw [up_ne (by omega), up_ne (by omega), up_ne (by omega), up_ne (by omega), up_eq]
        have h12 := h10.state (x := 2) (by omega) (fun q => absurd (st1.symm.trans q) (by decide)) e12 rfl
        obtain ⟨b12, ⟨k12, r12, -⟩, -, -⟩ := h12
        have o12 : ∀ x, (x < 21 + 47 * pl π i + 2 ∨ 21 + 47 * pl π i + 47 ≤ x) → x ≠ 5 → x ≠ 1149 + 27 * s + 1 → va_up (whd w (pl π i) s) (21 + 47 * pl π i + 25 + 3) (nI 2) x = w x := fun x q1 q2 q3 => by rw [up_ne (by omega)]; exact whd_out q1 q2 q3
        have hstm := stt_is (by rw [← eqp_stt he]; exact hst : stt wm (pl π i) (nI s) 0 = true)
        have hom : oth wm (pl π i) (nI s) = false := by rw [← eqp_oth he]; exact ho
        have hlm : lie wm (pl π i) = true := by rw [← eqp_lie he]; exact hlj
        rintro x13 rfl
        rw [nI_1]
        have hn0 : ∀ y, y < 24 → va_up (whd w (pl π i) s) (21 + 47 * pl π i + 25 + 3) (nI 2) (21 + 47 * y) = num w y := fun y hy => o12 _ (by omega) (by omega) (by omega)
        refine ih (c + 1) m S12 _ _ k (by omega) (by omega) b12 (eqp_hold he hj) (hWm.pass hj hs hlm hom hstm) (by rw [o12 _ (by omega) (by omega) (by omega)]; exact htc) (by rw [o12 _ (by omega) (by omega) (by omega)]; exact hkc) ((hn0 j0 hj0).trans hnm) (by unfold lie at *; unfold num at *; rw [hn0 j0 hj0]; exact hl) (fun S' g1 g2 => hk S' (k12.tr g1) (g2.trans r12))
      · rw [if_pos (h.2.2.1.one _ _ hj hj0 hlj (by rw [hd, hnm]))] at hk
        exact hk S KP.rfl rfl
theorem m_passedBy {s : Nat} (hs : s < ns) {tc kc : Nat} (ht4 : tc ≤ 4) (hk4 : kc ≤ 4) {j0 : Nat} (hj0 : j0 < 24) : ∀ r c m (S : sSt) (w : Wd) (k : Int32 → sSt → Prop), c + r ≤ 24 → wai w s ≤ r → r + 1 < m → WF w ns np cm nl → w (1149 + 27 * s + 5) = nI tc → w (1149 + 27 * s + 18) = nI kc → (∀ S', (∀ a b, a ≠ 1 → S'.1 a b = S.1 a b) → (∀ x, 1289 ≤ x → S'.1 1 0 x = w x) → k (pas s tc kc j0 r c w) S') → B_X12_passedBy_9 m (nI s) (nI j0) (nI c) (oI (fsto w s tc kc)) (sw S w) k := by
  intro r
  induction r with
  | zero =>
    intro c m S w k hc hw hm hW htc hkc hk
    obtain ⟨m, rfl⟩ : ∃ z, m = z + 1 := ⟨m - 1, by omega⟩
    rw [wai_fsto hW (by omega)]
    simp only [B_X12_passedBy_9_s, Bb_X12_passedBy_9, oI, true_implies, not_true_eq_false, false_implies, and_true]
    exact hk (sw S w) (fun a b q => sw_o (by omega)) (fun x _ => by rw [sw_w])
  | succ r ih =>
    intro c m S w k hc hw hm hW htc hkc hk
    obtain ⟨m, rfl⟩ : ∃ z, m = z + 1 := ⟨m - 1, by omega⟩
    have hn := hW.hns.1
    cases hf : fsto w s tc kc with
    | none =>
      rw [pas_n hf] at hk
      simp only [B_X12_passedBy_9_s, Bb_X12_passedBy_9, oI, true_implies, not_true_eq_false, false_implies, and_true]
      exact hk (sw S w) (fun a b q => sw_o (by omega)) (fun x _ => by rw [sw_w])
    | some j =>
      obtain ⟨hj, hcn, ho, hst, hl⟩ := fsto_is hW hf
      rw [pas_s hf] at hk
      simp only [B_X12_passedBy_9_s, Bb_X12_passedBy_9, oI, ni_m1 (show j < 2147483648 by omega), false_implies, not_false_eq_true, true_implies, true_and]
      rw [nI_eq (by omega) (by omega)]
      refine ⟨fun hd => ?_, fun hd => ?_⟩
      · rw [if_neg hd] at hk
        rw [m_locks hj]
        simp only [na_3, na_0, m_sessAt1]
        rw [ix_n (by omega) (by omega)]
        simp only [forall_eq, sw_i, sw_w]
        rw [ix_n (by omega) (by omega), ix_n (by omega) (by omega)]
        simp only [forall_eq, nI_1]
        have eW := hW.pass hj hs hl ho (stt_is hst)
        have hx : ∀ x, (x < 21 + 47 * j + 2 ∨ 21 + 47 * j + 47 ≤ x) → x ≠ 1149 + 27 * s + 1 → wps w j s x = w x := fun x q1 q2 => wps_out q1 q2
        have htc' : wps w j s (1149 + 27 * s + 5) = nI tc := by rw [hx _ (by omega) (by omega)]; exact htc
        have hkc' : wps w j s (1149 + 27 * s + 18) = nI kc := by rw [hx _ (by omega) (by omega)]; exact hkc
        have hwa := wai_pass (w := w) (s := s) (j := j) (by omega) hj hst
        show F_X12_firstFor (nI s) (sw S (wps w j s)) _
        rw [m_firstFor (by rw [sw_w]; exact eW) (by omega) ht4 (by rw [sw_w]; exact htc') hk4 (by rw [sw_w]; exact hkc'), sw_w]
        exact ih (c + 1) m S _ k (by omega) (by omega) (by omega) eW htc' hkc' (fun S' g1 g2 => hk S' g1 (fun x hx' => (g2 x hx').trans (hx x (by omega) (by omega))))
      · rw [if_pos hd] at hk
        exact hk (sw S w) (fun a b q => sw_o (by omega)) (fun x _ => by rw [sw_w])
theorem cs_31 (h : Inv n Sc Sm) {a1 a2 a3 a4 a5 : Int32} {o : Int64} : CS_31 a1 a2 a3 a4 a5 Sc Sm o (fun S1 S2 _ => Inv (n + 1) S1 S2) := by
  obtain ⟨l, sp, π, ns, np, cm, nl, hR, hB, hc⟩ := h
  obtain ⟨w, hw⟩ : ∃ w, w = Sm.1 1 0 := ⟨_, rfl⟩
  have hs : Sm = sw Sm w := by rw [hw, sw_s]
  rw [← hw] at hB
  have hW := hB.2.2.1
  have hn := hW.hns.1
  have m0 : MK Sm (uI Sm 0 0 0 0) := MK.rfl.f (by omega)
  show FW_passed a1 a2 Sc o (fun r1 S2 o3 => F_X12_passed a1 a2 Sm (tl n r1 S2 o3))
  unfold FW_passed F_X11_passed
  have bad : ((∀ j, j < 24 → num w j = a2 → sees w j a1 = false) ∨ hasS w a1 = false) → F_X12_passed a1 a2 Sm (tl n 1 Sc o) := by
    intro hno
    rw [hs, F_X12_passed]
    refine m_ownJobFor hW (fun j s hj hs ha hnm hse => (no_job hno hW hj hs ha hnm hse).elim) (fun _ S' g1 g2 => ⟨fun q => absurd rfl q, fun _ => ?_⟩)
    exact tl_ex g1 (by decide) (inv_same hR hB hc g2)
  refine x_needSession hR.2.1 hB (fun s hs' ha => ?_) (fun q => ⟨fun _ => bad (Or.inr q), fun q => absurd rfl q⟩)
  refine x_needJob hR.2.1 hB (fun i hi hnm hse => ?_) (fun q => ⟨fun _ => bad (Or.inl q), fun q => absurd rfl q⟩)
  rw [ha] at hse
  have hj4 := hB.2.1.at hi
  obtain ⟨tc, kc, all, t4, k4, al1, al6, htc, hkc, hall⟩ := wf_ses hW hs'
  rw [hR.2.1, hR.2.2.1]
  refine x_copyTable hB hR.2.2.2.1 (by have := hR.1; omega) (fun S6 b6 k6 r6 _ => ?_)
  have l6 : S6.2 0 0 5 = sp := by rw [r6]; exact hR.2.2.1
  rw [l6, ha, F_X0_claimedAhead]
  refine x_claimedAhead hs' t4 k4 hj4 24 0 fuel S6 w w _ (by omega) (fuel_gt (by omega)) b6 (fun _ _ _ => rfl) hW htc hkc hnm (sees_lie hse) (fun S9 k9 r9 => ?_)
  show F_X12_passed (nI s) a2 Sm (tl n 0 S9 _)
  rw [hs, F_X12_passed]
  refine m_ownJobFor hW (fun j s2 hj hs2 ha2 hnm2 hse2 => ⟨fun _ => ?_, fun q => absurd q (ni_m1 (by omega))⟩) (fun hno => (no_job hno hW hj4 hs' rfl hnm hse).elim)
  obtain rfl := same_ses hW hs2 hs' ha2 rfl
  obtain rfl := same_job hW hj hj4 hnm2 hnm hse2
  refine m_keepsAll (fun T1 o1 x1 => ?_)
  have eT : T1 = sw T1 w := by
    have : T1.1 1 0 = w := by rw [o1 1 0 (by omega), sw_w]
    rw [← this, sw_s]
  rw [eT, F_X12_passedBy, m_firstFor (by rw [sw_w]; exact hW) (by omega) t4 (by rw [sw_w]; exact htc) k4 (by rw [sw_w]; exact hkc), sw_w]
  have hwa : wai w s ≤ 24 := by
    have := List.countP_le_length (p := fun i => stt w i (nI s) 0) (l := List.range' 0 24)
    rw [List.length_range'] at this
    exact this
  refine m_passedBy hs' t4 k4 hj 24 0 fuel T1 w _ (by omega) hwa (fuel_gt (by omega)) hW htc hkc (fun T2 o2 x2 => ?_)
  refine m_bringsBack (fun T3 o3 x3 y3 => ?_)
  have e10 : T3.1 1 0 = w := by
    funext x
    rcases Nat.lt_or_ge x 1289 with c | c
    · rw [x3 x c, o2 4 0 (by omega), x1 x c, sw_w]
    · rw [y3 x c]; exact x2 x c
  have oT : ∀ a b, a ≠ 1 → a ≠ 4 → T3.1 a b = (uI Sm 0 0 0 0).1 a b := fun a b z1 z4 => by
    rw [o3 a b (by omega), o2 a b z1, o1 a b (by omega), sw_o (by omega)]
  have hmk : MK Sm T3 := m0.tr ⟨fun f _ _ _ _ => by rw [oT 0 0 (by omega) (by omega)], oT 2 0 (by omega) (by omega), oT 6 0 (by omega) (by omega)⟩
  have eT3 : T3 = sw T3 w := by rw [← e10, sw_s]
  rw [eT3]
  exact tl_ok (by rw [oT 0 0 (by omega) (by omega)]; exact uI_at) (inv_spare hR hB hc (k6.tr k9) (r9.trans r6) hmk) rfl
end CS
end PU54
