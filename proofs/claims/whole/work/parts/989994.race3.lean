section PU50
/-! CALL race: a round of the model's -/
section CS
variable {Sc Sc' Sm S' S : sSt} {l sp n t t' : Nat} {w w' : Wd} {π π' : List Nat} {ns np cm nl ns' np' cm' nl' : Nat}
theorem m_round (h10 : S.1 1 0 = w) {r : Nat} (hr : r < 2) (hm1 : ∀ j, j < 24 → S.1 10 0 (24 * r + j) = -1) (hW : WF w ns np cm nl) {s1 s2 tc1 kc1 al1 tc2 kc2 al2 : Nat} (hs1 : s1 < ns) (hs2 : s2 < ns) (a1 : tc1 ≤ 4) (a2 : kc1 ≤ 4) (a3 : al1 ≤ 6) (a4 : w (1149 + 27 * s1 + 5) = nI tc1) (a5 : w (1149 + 27 * s1 + 18) = nI kc1) (a6 : w (1149 + 27 * s1 + 4) = nI al1) (b1 : tc2 ≤ 4) (b2 : kc2 ≤ 4) (b3 : al2 ≤ 6) (b4 : (wcl s1 tc1 kc1 al1 w).1 (1149 + 27 * s2 + 5) = nI tc2) (b5 : (wcl s1 tc1 kc1 al1 w).1 (1149 + 27 * s2 + 18) = nI kc2) (b6 : (wcl s1 tc1 kc1 al1 w).1 (1149 + 27 * s2 + 4) = nI al2) {k : sSt → Prop} (hk : ∀ S', S'.1 1 0 = w → (∀ a b, a ≠ 1 → a ≠ 4 → a ≠ 8 → a ≠ 10 → S'.1 a b = S.1 a b) → (∀ j, j < 24 → S'.1 10 0 (24 * r + j) = tkr (wcl s1 tc1 kc1 al1 w).2 (wcl s2 tc2 kc2 al2 (wcl s1 tc1 kc1 al1 w).1).2 s1 s2 j) → (∀ x, (x < 24 * r ∨ 24 * r + 24 ≤ x) → S'.1 10 0 x = S.1 10 0 x) → k S') : F_X12_keepsAll S (fun S10 => F_X12_claimsIn (nI r) (nI s1) S10 (fun S13 => F_X12_claimsIn (nI r) (nI s2) S13 (fun S16 => F_X12_bringsBack S16 k))) := by
  obtain ⟨hi1, -⟩ := wcl_hi (tc := tc1) (kc := kc1) hs1 al1 w hW
  have hW1 := (wcl_ok (np := np) (cm := cm) (nl := nl) (tc := tc1) (kc := kc1) hs1 al1 w hW).1
  obtain ⟨hi2, -⟩ := wcl_hi (tc := tc2) (kc := kc2) hs2 al2 _ hW1
  refine m_keepsAll (fun T1 o1 x1 => ?_)
  have e1 : T1 = sw T1 w := by
    have : T1.1 1 0 = w := by rw [o1 1 0 (by omega)]; exact h10
    rw [← this, sw_s]
  rw [e1]
  refine m_claimsIn hr hs1 a1 a2 a3 hW a4 a5 a6 (fun T2 g1 g2 g3 g4 => ?_)
  have e2 : T2 = sw T2 (wcl s1 tc1 kc1 al1 w).1 := by rw [← g1, sw_s]
  rw [e2]
  refine m_claimsIn hr hs2 b1 b2 b3 hW1 b4 b5 b6 (fun T3 p1 p2 p3 p4 => ?_)
  refine m_bringsBack (fun T4 o4 x4 y4 => ?_)
  refine hk T4 ?_ (fun a b z1 z4 z8 z10 => ?_) (fun j hj => ?_) (fun x hx => ?_)
  · funext x
    rcases Nat.lt_or_ge x 1289 with c | c
    · rw [x4 x c, p2 4 0 (by omega) (by omega) (by omega), g2 4 0 (by omega) (by omega) (by omega), x1 x c, h10]
    · rw [y4 x c, p1, hi2 x c, hi1 x c]
  · rw [o4 a b (by omega), p2 a b z1 z8 z10, g2 a b z1 z8 z10, o1 a b (by omega)]
  · rw [o4 10 0 (by omega), p3 j hj, g3 j hj, o1 10 0 (by omega), hm1 j hj]
    rfl
  · rw [o4 10 0 (by omega), p4 x hx, g4 x hx, o1 10 0 (by omega)]
end CS
end PU50
