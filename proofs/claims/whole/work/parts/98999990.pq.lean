section PU66
/-! READING a query: columns, signs, terms, keys. The second of an answer: the place behind it, or the begin of what is wrong -/
def wrd (T : Nat → Int32) (L : Nat) (i x : Nat) : Bool := isW T i (bl T L x) (el T L (bl T L x))
def pcol (T : Nat → Int32) (L x : Nat) : Option Nat × Nat :=
  if wrd T L 20 x = true then (some 0, el T L (bl T L x)) else if wrd T L 1 x = true then (some 1, el T L (bl T L x)) else if wrd T L 2 x = true then (some 2, el T L (bl T L x)) else if wrd T L 3 x = true then (some 3, el T L (bl T L x)) else if wrd T L 21 x = true then (some 4, el T L (bl T L x)) else if wrd T L 22 x = true then (some 5, el T L (bl T L x)) else if wrd T L 23 x = true then (some 6, el T L (bl T L x)) else if wrd T L 24 x = true then (some 7, el T L (bl T L x)) else (none, bl T L x)
def psgn (T : Nat → Int32) (L x : Nat) : Option Nat × Nat :=
  if isS T L (bl T L x) 61 = true then (some 0, bl T L x + 1) else if isS T L (bl T L x) 33 = true then (some 1, bl T L x + 1) else if isS T L (bl T L x) 60 = true then (some 2, bl T L x + 1) else if isS T L (bl T L x) 62 = true then (some 3, bl T L x + 1) else (none, bl T L x)
def pnum (T : Nat → Int32) (L lo hi x : Nat) : Option Nat × Nat := match nbr T L (bl T L x) lo hi with
  | none => (none, bl T L x)
  | some v => (some v, ed T L (bl T L x))
/-- a word and a number behind it -/
def pbeh (T : Nat → Int32) (L i lo hi x : Nat) : Option Nat × Nat := if wrd T L i x = true then pnum T L lo hi (el T L (bl T L x)) else (none, bl T L x)
def ptm (T : Nat → Int32) (L x : Nat) : Option (Nat × Nat × Nat) × Nat := match pcol T L x with
  | (none, b) => (none, b)
  | (some c, y) => match psgn T L y with
    | (none, b) => (none, b)
    | (some s, z) => match pnum T L 0 999 z with
      | (none, b) => (none, b)
      | (some v, u) => (some (c, s, v), u)
def pts (T : Nat → Int32) (L : Nat) : Nat → Nat → Option (List (Nat × Nat × Nat)) × Nat
  | 0, x => (none, bl T L x)
  | r + 1, x => match ptm T L x with
    | (none, b) => (none, b)
    | (some t, y) => if wrd T L 25 y = true then (match pts T L r (el T L (bl T L y)) with
        | (none, b) => (none, b)
        | (some l, z) => (some (t :: l), z)) else (some [t], bl T L y)
def pkey (T : Nat → Int32) (L x : Nat) : Option (Nat × Nat) × Nat := match pcol T L x with
  | (none, b) => (none, b)
  | (some c, y) => if wrd T L 28 y = true then (some (c, 1), el T L (bl T L y)) else (some (c, 0), bl T L y)
def pks (T : Nat → Int32) (L : Nat) : Nat → Nat → Option (List (Nat × Nat)) × Nat
  | 0, x => (none, bl T L x)
  | r + 1, x => match pkey T L x with
    | (none, b) => (none, b)
    | (some t, y) => if isS T L (bl T L y) 44 = true then (match pks T L r (bl T L y + 1) with
        | (none, b) => (none, b)
        | (some l, z) => (some (t :: l), z)) else (some [t], bl T L y)
section PL
variable {S S' S1 : sSt} {T : Nat → Int32} {L x y p b i : Nat} {wr : Int32}
theorem el_bl_le (hL : L ≤ 400) (hx : x ≤ L) : el T L (bl T L x) ≤ L := (el_ok hL (bl_ok hL hx).2.1).2.1
theorem isS_lt {a : Int32} (h : isS T L x a = true) : x < L := by unfold isS at h; simp only [Bool.and_eq_true, decide_eq_true_eq] at h; exact h.1
theorem pcol_ok (hL : L ≤ 400) (hx : x ≤ L) : (pcol T L x).2 ≤ L ∧ ∀ c, (pcol T L x).1 = some c → c ≤ 7 := by
  have h1 := el_bl_le (T := T) hL hx
  have h2 := (bl_ok (T := T) hL hx).2.1
  unfold pcol
  repeat' split
  all_goals first | exact ⟨h1, fun c h => by cases h; omega⟩ | exact ⟨h2, fun c h => by cases h⟩
theorem psgn_ok (hL : L ≤ 400) (hx : x ≤ L) : (psgn T L x).2 ≤ L ∧ ∀ c, (psgn T L x).1 = some c → c ≤ 3 := by
  have h2 := (bl_ok (T := T) hL hx).2.1
  unfold psgn
  repeat' split
  all_goals first | exact ⟨h2, fun c h => by cases h⟩ | (refine ⟨?_, fun c h => by cases h; omega⟩; rename_i q; exact isS_lt q)
theorem pnum_ok {lo hi : Nat} (hL : L ≤ 400) (hx : x ≤ L) : (pnum T L lo hi x).2 ≤ L ∧ ∀ c, (pnum T L lo hi x).1 = some c → lo ≤ c ∧ c ≤ hi := by
  have h2 := (bl_ok (T := T) hL hx).2.1
  unfold pnum
  cases q : nbr T L (bl T L x) lo hi with
  | none => exact ⟨h2, fun c h => by cases h⟩
  | some v =>
    refine ⟨(ed_ok hL h2).2.1, fun c h => ?_⟩
    cases h
    unfold nbr at q
    split at q
    · rename_i z; cases q; exact ⟨z.2.2.1, z.2.2.2⟩
    · cases q
/-! the model -/
theorem m_col (h : RM S T L x) (hx : x ≤ L) (hL : L ≤ 400) {k : Int32 → sSt → Prop} (h1 : ∀ c y, pcol T L x = (some c, y) → c ≤ 7 → y ≤ L → ∀ S', NM S S' → RM S' T L y → S'.1 0 0 12 = nI (bl T L x) → k (nI c) S') (h0 : ∀ y, pcol T L x = (none, y) → ∀ S', NM S S' → S'.1 0 0 12 = nI y → y = bl T L x → k (-1) S') : F_X12_columnRead S k := by
  obtain ⟨b1, b2, -, -⟩ := bl_ok (T := T) hL hx
  obtain ⟨c1, c2, -, -⟩ := el_ok (T := T) hL b2
  rw [F_X12_columnRead]
  refine m_letters h hx hL (fun S2 n2 r2 e2 => ?_)
  have w : ∀ i, i < 29 → ∀ {kk : Int32 → sSt → Prop}, (F_X12_isWord i S2 kk ↔ kk (b2i (wrd T L i x)) S2) := fun i hi kk => m_isWord hi r2 e2 c1 c2 hL
  have yes : ∀ c, pcol T L x = (some c, el T L (bl T L x)) → c ≤ 7 → k (nI c) S2 := fun c q hc => h1 c _ q hc c2 S2 n2 r2 e2
  rw [w 20 (by omega)]
  cases q0 : wrd T L 20 x
  rotate_left
  · exact ⟨fun z => absurd z (by decide), fun _ => yes 0 (by unfold pcol; rw [if_pos q0]) (by omega)⟩
  refine ⟨fun _ => ?_, fun z => absurd rfl z⟩
  rw [w 1 (by omega)]
  cases q1 : wrd T L 1 x
  rotate_left
  · exact ⟨fun z => absurd z (by decide), fun _ => yes 1 (by unfold pcol; rw [if_neg (by rw [q0]; decide), if_pos q1]) (by omega)⟩
  refine ⟨fun _ => ?_, fun z => absurd rfl z⟩
  rw [w 2 (by omega)]
  cases q2 : wrd T L 2 x
  rotate_left
  · exact ⟨fun z => absurd z (by decide), fun _ => yes 2 (by unfold pcol; rw [if_neg (by rw [q0]; decide), if_neg (by rw [q1]; decide), if_pos q2]) (by omega)⟩
  refine ⟨fun _ => ?_, fun z => absurd rfl z⟩
  rw [w 3 (by omega)]
  cases q3 : wrd T L 3 x
  rotate_left
  · exact ⟨fun z => absurd z (by decide), fun _ => yes 3 (by unfold pcol; rw [if_neg (by rw [q0]; decide), if_neg (by rw [q1]; decide), if_neg (by rw [q2]; decide), if_pos q3]) (by omega)⟩
  refine ⟨fun _ => ?_, fun z => absurd rfl z⟩
  rw [w 21 (by omega)]
  cases q4 : wrd T L 21 x
  rotate_left
  · exact ⟨fun z => absurd z (by decide), fun _ => yes 4 (by unfold pcol; rw [if_neg (by rw [q0]; decide), if_neg (by rw [q1]; decide), if_neg (by rw [q2]; decide), if_neg (by rw [q3]; decide), if_pos q4]) (by omega)⟩
  refine ⟨fun _ => ?_, fun z => absurd rfl z⟩
  rw [w 22 (by omega)]
  cases q5 : wrd T L 22 x
  rotate_left
  · exact ⟨fun z => absurd z (by decide), fun _ => yes 5 (by unfold pcol; rw [if_neg (by rw [q0]; decide), if_neg (by rw [q1]; decide), if_neg (by rw [q2]; decide), if_neg (by rw [q3]; decide), if_neg (by rw [q4]; decide), if_pos q5]) (by omega)⟩
  refine ⟨fun _ => ?_, fun z => absurd rfl z⟩
  rw [w 23 (by omega)]
  cases q6 : wrd T L 23 x
  rotate_left
  · exact ⟨fun z => absurd z (by decide), fun _ => yes 6 (by unfold pcol; rw [if_neg (by rw [q0]; decide), if_neg (by rw [q1]; decide), if_neg (by rw [q2]; decide), if_neg (by rw [q3]; decide), if_neg (by rw [q4]; decide), if_neg (by rw [q5]; decide), if_pos q6]) (by omega)⟩
  refine ⟨fun _ => ?_, fun z => absurd rfl z⟩
  rw [w 24 (by omega)]
  cases q7 : wrd T L 24 x
  rotate_left
  · exact ⟨fun z => absurd z (by decide), fun _ => yes 7 (by unfold pcol; rw [if_neg (by rw [q0]; decide), if_neg (by rw [q1]; decide), if_neg (by rw [q2]; decide), if_neg (by rw [q3]; decide), if_neg (by rw [q4]; decide), if_neg (by rw [q5]; decide), if_neg (by rw [q6]; decide), if_pos q7]) (by omega)⟩
  refine ⟨fun _ => ?_, fun z => absurd rfl z⟩
  exact h0 (bl T L x) (by unfold pcol; rw [if_neg (by rw [q0]; decide), if_neg (by rw [q1]; decide), if_neg (by rw [q2]; decide), if_neg (by rw [q3]; decide), if_neg (by rw [q4]; decide), if_neg (by rw [q5]; decide), if_neg (by rw [q6]; decide), if_neg (by rw [q7]; decide)]) S2 n2 e2 rfl
theorem m_sgn (h : RM S T L x) (hx : x ≤ L) (hL : L ≤ 400) {k : Int32 → sSt → Prop} (h1 : ∀ c y, psgn T L x = (some c, y) → c ≤ 3 → y ≤ L → ∀ S', NM S S' → RM S' T L y → k (nI c) S') (h0 : ∀ y, psgn T L x = (none, y) → ∀ S', NM S S' → S'.1 0 0 12 = nI y → k (-1) S') : F_X12_signRead S k := by
  obtain ⟨b1, b2, -, -⟩ := bl_ok (T := T) hL hx
  have bb := bl_bl (T := T) hL hx
  rw [F_X12_signRead]
  have nx : ∀ {a : Int32}, isS T L (bl T L (bl T L x)) a = isS T L (bl T L x) a := by intro a; rw [bb]
  refine m_sign h hx hL (fun q S1 n1 r1 => ⟨fun z => absurd z (by decide), fun _ => h1 0 _ (by unfold psgn; rw [if_pos q]) (by omega) (isS_lt q) S1 n1 r1⟩) (fun q0 S1 n1 r1 _ => ⟨fun _ => ?_, fun z => absurd rfl z⟩)
  refine m_sign r1 b2 hL (fun q S2 n2 r2 => ⟨fun z => absurd z (by decide), fun _ => ?_⟩) (fun q1 S2 n2 r2 _ => ⟨fun _ => ?_, fun z => absurd rfl z⟩)
  · rw [nx] at q
    rw [bb] at r2
    exact h1 1 _ (by unfold psgn; rw [if_neg (by rw [q0]; decide), if_pos q]) (by omega) (isS_lt q) S2 (n1.tr n2) r2
  rw [bb] at r2
  rw [nx] at q1
  refine m_sign r2 b2 hL (fun q S3 n3 r3 => ⟨fun z => absurd z (by decide), fun _ => ?_⟩) (fun q2 S3 n3 r3 _ => ⟨fun _ => ?_, fun z => absurd rfl z⟩)
  · rw [nx] at q
    rw [bb] at r3
    exact h1 2 _ (by unfold psgn; rw [if_neg (by rw [q0]; decide), if_neg (by rw [q1]; decide), if_pos q]) (by omega) (isS_lt q) S3 (n1.tr (n2.tr n3)) r3
  rw [bb] at r3
  rw [nx] at q2
  refine m_sign r3 b2 hL (fun q S4 n4 r4 => ⟨fun z => absurd z (by decide), fun _ => ?_⟩) (fun q3 S4 n4 r4 e4 => ⟨fun _ => ?_, fun z => absurd rfl z⟩)
  · rw [nx] at q
    rw [bb] at r4
    exact h1 3 _ (by unfold psgn; rw [if_neg (by rw [q0]; decide), if_neg (by rw [q1]; decide), if_neg (by rw [q2]; decide), if_pos q]) (by omega) (isS_lt q) S4 (n1.tr (n2.tr (n3.tr n4))) r4
  · rw [nx] at q3
    rw [bb] at e4
    exact h0 _ (by unfold psgn; rw [if_neg (by rw [q0]; decide), if_neg (by rw [q1]; decide), if_neg (by rw [q2]; decide), if_neg (by rw [q3]; decide)]) S4 (n1.tr (n2.tr (n3.tr n4))) e4
theorem m_num {lo hi : Nat} (h9 : hi ≤ 999) (hlo : lo ≤ 999) (h : RM S T L x) (hx : x ≤ L) (hL : L ≤ 400) {k : Int32 → sSt → Prop} (h1 : ∀ v y, pnum T L lo hi x = (some v, y) → lo ≤ v → v ≤ hi → y ≤ L → ∀ S', NM S S' → RM S' T L y → k (nI v) S') (h0 : ∀ y, pnum T L lo hi x = (none, y) → ∀ S', NM S S' → S'.1 0 0 12 = nI y → k (-1) S') : F_X12_number (nI lo) (nI hi) S k := by
  have ok := pnum_ok (T := T) (lo := lo) (hi := hi) hL hx
  refine m_number h9 hlo h hx hL (fun v q S' n' r' => ?_) (fun q S' n' e' => h0 _ (by unfold pnum; rw [q]) S' n' e')
  have e : pnum T L lo hi x = (some v, ed T L (bl T L x)) := by unfold pnum; rw [q]
  rw [e] at ok
  exact h1 v _ e (ok.2 v rfl).1 (ok.2 v rfl).2 ok.1 S' n' r'
theorem m_beh (hi29 : i < 29) {lo hi : Nat} (h9 : hi ≤ 999) (hlo : lo ≤ 999) (h : RM S T L x) (hx : x ≤ L) (hL : L ≤ 400) {k : Int32 → sSt → Prop} (h1 : ∀ v y, pbeh T L i lo hi x = (some v, y) → lo ≤ v → v ≤ hi → y ≤ L → ∀ S', NM S S' → RM S' T L y → k (nI v) S') (h0 : ∀ y, pbeh T L i lo hi x = (none, y) → ∀ S', NM S S' → S'.1 0 0 12 = nI y → k (-1) S') : F_X12_behind i (nI lo) (nI hi) S k := by
  have b2 := (bl_ok (T := T) hL hx).2.1
  obtain ⟨c1, c2, -, -⟩ := el_ok (T := T) hL b2
  rw [F_X12_behind]
  refine m_letters h hx hL (fun S2 n2 r2 e2 => ?_)
  rw [m_isWord hi29 r2 e2 c1 c2 hL]
  cases q : isW T i (bl T L x) (el T L (bl T L x))
  · exact ⟨fun _ => h0 _ (by unfold pbeh wrd; rw [q, if_neg (by decide)]) S2 n2 e2, fun z => absurd rfl z⟩
  · refine ⟨fun z => absurd z (by decide), fun _ => ?_⟩
    have e : pbeh T L i lo hi x = pnum T L lo hi (el T L (bl T L x)) := by unfold pbeh wrd; rw [if_pos q]
    exact m_num h9 hlo r2 c2 hL (fun v y q2 a b c S' n' r' => h1 v y (e.trans q2) a b c S' (n2.tr n') r') (fun y q2 S' n' e' => h0 y (e.trans q2) S' (n2.tr n') e')
theorem m_pass (hi29 : i < 29) (h : RM S T L x) (hx : x ≤ L) (hL : L ≤ 400) {k : Int32 → sSt → Prop} (h1 : wrd T L i x = true → ∀ S', NM S S' → RM S' T L (el T L (bl T L x)) → k 1 S') (h0 : wrd T L i x = false → ∀ S', NM S S' → RM S' T L (bl T L x) → k 0 S') : F_X12_passes i S k := m_passes hi29 h hx hL h1 h0
/-! the class -/
theorem x_word (hT : byt T) (hi : i < 29) (h : RC S T L (bl T L x) (-1)) (hx : x ≤ L) (hL : L ≤ 400) {k : Int32 → sSt → Prop} (h1 : wrd T L i x = true → ∀ S', NC S S' → RC S' T L (bl T L (el T L (bl T L x))) (-1) → k 1 S') (h0 : wrd T L i x = false → k 0 S) : F_X8_takeWord i S k := x_takeWord hT hi h (bl_ok hL hx).2.1 hL h1 h0
theorem x_col (hT : byt T) (h : RC S T L (bl T L x) (-1)) (hx : x ≤ L) (hL : L ≤ 400) {k : Int32 → sSt → Prop} (h1 : ∀ c y, pcol T L x = (some c, y) → c ≤ 7 → y ≤ L → ∀ S', NC S S' → RC S' T L (bl T L y) (-1) → k (nI c) S') (h0 : ∀ y, pcol T L x = (none, y) → y ≤ L → ∀ S', NC S S' → RC S' T L y (nI y) → k 7 S') : F_X3_readColumn S k := by
  have b2 := (bl_ok (T := T) hL hx).2.1
  have c2 := el_bl_le (T := T) hL hx
  rw [F_X3_readColumn]
  refine x_word hT (by omega) h hx hL (fun q S' n' r' => ⟨fun z => absurd z (by decide), fun _ => h1 0 _ (by unfold pcol; rw [if_pos q]) (by omega) c2 S' n' r'⟩) (fun q0 => ⟨fun _ => ?_, fun z => absurd rfl z⟩)
  refine x_word hT (by omega) h hx hL (fun q S' n' r' => ⟨fun z => absurd z (by decide), fun _ => h1 1 _ (by unfold pcol; rw [if_neg (by rw [q0]; decide), if_pos q]) (by omega) c2 S' n' r'⟩) (fun q1 => ⟨fun _ => ?_, fun z => absurd rfl z⟩)
  refine x_word hT (by omega) h hx hL (fun q S' n' r' => ⟨fun z => absurd z (by decide), fun _ => h1 2 _ (by unfold pcol; rw [if_neg (by rw [q0]; decide), if_neg (by rw [q1]; decide), if_pos q]) (by omega) c2 S' n' r'⟩) (fun q2 => ⟨fun _ => ?_, fun z => absurd rfl z⟩)
  refine x_word hT (by omega) h hx hL (fun q S' n' r' => ⟨fun z => absurd z (by decide), fun _ => h1 3 _ (by unfold pcol; rw [if_neg (by rw [q0]; decide), if_neg (by rw [q1]; decide), if_neg (by rw [q2]; decide), if_pos q]) (by omega) c2 S' n' r'⟩) (fun q3 => ⟨fun _ => ?_, fun z => absurd rfl z⟩)
  refine x_word hT (by omega) h hx hL (fun q S' n' r' => ⟨fun z => absurd z (by decide), fun _ => h1 4 _ (by unfold pcol; rw [if_neg (by rw [q0]; decide), if_neg (by rw [q1]; decide), if_neg (by rw [q2]; decide), if_neg (by rw [q3]; decide), if_pos q]) (by omega) c2 S' n' r'⟩) (fun q4 => ⟨fun _ => ?_, fun z => absurd rfl z⟩)
  refine x_word hT (by omega) h hx hL (fun q S' n' r' => ⟨fun z => absurd z (by decide), fun _ => h1 5 _ (by unfold pcol; rw [if_neg (by rw [q0]; decide), if_neg (by rw [q1]; decide), if_neg (by rw [q2]; decide), if_neg (by rw [q3]; decide), if_neg (by rw [q4]; decide), if_pos q]) (by omega) c2 S' n' r'⟩) (fun q5 => ⟨fun _ => ?_, fun z => absurd rfl z⟩)
  refine x_word hT (by omega) h hx hL (fun q S' n' r' => ⟨fun z => absurd z (by decide), fun _ => h1 6 _ (by unfold pcol; rw [if_neg (by rw [q0]; decide), if_neg (by rw [q1]; decide), if_neg (by rw [q2]; decide), if_neg (by rw [q3]; decide), if_neg (by rw [q4]; decide), if_neg (by rw [q5]; decide), if_pos q]) (by omega) c2 S' n' r'⟩) (fun q6 => ⟨fun _ => ?_, fun z => absurd rfl z⟩)
  refine x_word hT (by omega) h hx hL (fun q S' n' r' => ⟨fun _ => h1 7 _ (by unfold pcol; rw [if_neg (by rw [q0]; decide), if_neg (by rw [q1]; decide), if_neg (by rw [q2]; decide), if_neg (by rw [q3]; decide), if_neg (by rw [q4]; decide), if_neg (by rw [q5]; decide), if_neg (by rw [q6]; decide), if_pos q]) (by omega) c2 S' n' r', fun z => absurd z (by decide)⟩) (fun q7 => ⟨fun z => absurd rfl z, fun _ => ?_⟩)
  exact x_refuse h (fun S' n' r' => h0 _ (by unfold pcol; rw [if_neg (by rw [q0]; decide), if_neg (by rw [q1]; decide), if_neg (by rw [q2]; decide), if_neg (by rw [q3]; decide), if_neg (by rw [q4]; decide), if_neg (by rw [q5]; decide), if_neg (by rw [q6]; decide), if_neg (by rw [q7]; decide)]) b2 S' n' r')
theorem x_col0 (hw : S.1 1 0 4 ≠ -1) {k : Int32 → sSt → Prop} (hk : k 7 S) : F_X3_readColumn S k := by
  rw [F_X3_readColumn]
  refine x_takeWord0 hw ⟨fun _ => x_takeWord0 hw ⟨fun _ => x_takeWord0 hw ⟨fun _ => x_takeWord0 hw ⟨fun _ => x_takeWord0 hw ⟨fun _ => x_takeWord0 hw ⟨fun _ => x_takeWord0 hw ⟨fun _ => x_takeWord0 hw ⟨fun z => absurd rfl z, fun _ => x_refuse0 hw hk⟩, fun z => absurd rfl z⟩, fun z => absurd rfl z⟩, fun z => absurd rfl z⟩, fun z => absurd rfl z⟩, fun z => absurd rfl z⟩, fun z => absurd rfl z⟩, fun z => absurd rfl z⟩
/-- the class's sign of a term -/
def sgx (c : Nat) : Int32 := if c = 0 then 61 else if c = 1 then 33 else if c = 2 then 60 else 62
theorem x_sgn (hT : byt T) (h : RC S T L (bl T L x) (-1)) (hx : x ≤ L) (hL : L ≤ 400) {k : Int32 → sSt → Prop} (h1 : ∀ c y, psgn T L x = (some c, y) → c ≤ 3 → y ≤ L → ∀ S', NC S S' → RC S' T L (bl T L y) (-1) → k (sgx c) S') (h0 : ∀ y, psgn T L x = (none, y) → y ≤ L → ∀ S', NC S S' → RC S' T L y (nI y) → k 62 S') : F_X3_readSign S k := by
  have b2 := (bl_ok (T := T) hL hx).2.1
  rw [F_X3_readSign]
  refine x_takeSign hT (by decide) (by decide) h b2 hL (fun q S' n' r' => ⟨fun z => absurd z (by decide), fun _ => h1 0 _ (by unfold psgn; rw [if_pos q]) (by omega) (isS_lt q) S' n' r'⟩) (fun q0 => ⟨fun _ => ?_, fun z => absurd rfl z⟩)
  refine x_takeSign hT (by decide) (by decide) h b2 hL (fun q S' n' r' => ⟨fun z => absurd z (by decide), fun _ => h1 1 _ (by unfold psgn; rw [if_neg (by rw [q0]; decide), if_pos q]) (by omega) (isS_lt q) S' n' r'⟩) (fun q1 => ⟨fun _ => ?_, fun z => absurd rfl z⟩)
  refine x_takeSign hT (by decide) (by decide) h b2 hL (fun q S' n' r' => ⟨fun z => absurd z (by decide), fun _ => h1 2 _ (by unfold psgn; rw [if_neg (by rw [q0]; decide), if_neg (by rw [q1]; decide), if_pos q]) (by omega) (isS_lt q) S' n' r'⟩) (fun q2 => ⟨fun _ => ?_, fun z => absurd rfl z⟩)
  refine x_takeSign hT (by decide) (by decide) h b2 hL (fun q S' n' r' => ⟨fun _ => h1 3 _ (by unfold psgn; rw [if_neg (by rw [q0]; decide), if_neg (by rw [q1]; decide), if_neg (by rw [q2]; decide), if_pos q]) (by omega) (isS_lt q) S' n' r', fun z => absurd z (by decide)⟩) (fun q3 => ⟨fun z => absurd rfl z, fun _ => ?_⟩)
  exact x_refuse h (fun S' n' r' => h0 _ (by unfold psgn; rw [if_neg (by rw [q0]; decide), if_neg (by rw [q1]; decide), if_neg (by rw [q2]; decide), if_neg (by rw [q3]; decide)]) b2 S' n' r')
theorem x_sgn0 (hw : S.1 1 0 4 ≠ -1) {k : Int32 → sSt → Prop} (hk : k 62 S) : F_X3_readSign S k := by
  rw [F_X3_readSign]
  exact x_takeSign0 hw ⟨fun _ => x_takeSign0 hw ⟨fun _ => x_takeSign0 hw ⟨fun _ => x_takeSign0 hw ⟨fun z => absurd rfl z, fun _ => x_refuse0 hw hk⟩, fun z => absurd rfl z⟩, fun z => absurd rfl z⟩, fun z => absurd rfl z⟩
theorem x_pnum (hT : byt T) {lo hi : Nat} (h9 : hi ≤ 999) (hlo : lo ≤ 999) (h : RC S T L (bl T L x) (-1)) (hx : x ≤ L) (hL : L ≤ 400) {k : Int32 → sSt → Prop} (h1 : ∀ v y, pnum T L lo hi x = (some v, y) → lo ≤ v → v ≤ hi → y ≤ L → ∀ S', NC S S' → RC S' T L (bl T L y) (-1) → k (nI v) S') (h0 : ∀ y, pnum T L lo hi x = (none, y) → y ≤ L → ∀ S', NC S S' → RC S' T L y (nI y) → k (-1) S') : F_X8_number (nI lo) (nI hi) S k := by
  have b2 := (bl_ok (T := T) hL hx).2.1
  have ok := pnum_ok (T := T) (lo := lo) (hi := hi) hL hx
  refine x_number hT h9 hlo h b2 hL (fun v q S' n' r' => ?_) (fun q S' n' r' => h0 _ (by unfold pnum; rw [q]) b2 S' n' r')
  have e : pnum T L lo hi x = (some v, ed T L (bl T L x)) := by unfold pnum; rw [q]
  rw [e] at ok
  exact h1 v _ e (ok.2 v rfl).1 (ok.2 v rfl).2 ok.1 S' n' r'
theorem x_beh (hT : byt T) (hi29 : i < 29) {lo hi : Nat} (h9 : hi ≤ 999) (hlo : lo ≤ 999) (h : RC S T L (bl T L x) (-1)) (hx : x ≤ L) (hL : L ≤ 400) {k : Int32 → sSt → Prop} (h1 : ∀ v y, pbeh T L i lo hi x = (some v, y) → lo ≤ v → v ≤ hi → y ≤ L → ∀ S', NC S S' → RC S' T L (bl T L y) (-1) → k (nI v) S') (h0 : ∀ y, pbeh T L i lo hi x = (none, y) → y ≤ L → ∀ S', NC S S' → RC S' T L y (nI y) → k (-1) S') : F_X8_numberBehind i (nI lo) (nI hi) S k := by
  have b2 := (bl_ok (T := T) hL hx).2.1
  have c2 := el_bl_le (T := T) hL hx
  rw [F_X8_numberBehind]
  refine x_word hT hi29 h hx hL (fun q S1 n1 r1 => ⟨fun _ => ?_, fun z => absurd z (by decide)⟩) (fun q => ⟨fun z => absurd rfl z, fun _ => ?_⟩)
  · rw [B_X8_numberBehind_12]
    have e : pbeh T L i lo hi x = pnum T L lo hi (el T L (bl T L x)) := by unfold pbeh; rw [if_pos q]
    exact x_pnum hT h9 hlo r1 c2 hL (fun v y q2 a b c S' n' r' => h1 v y (e.trans q2) a b c S' (n1.tr n') r') (fun y q2 a S' n' r' => h0 y (e.trans q2) a S' (n1.tr n') r')
  · refine x_refuse h (fun S1 n1 r1 => ?_)
    rw [B_X8_numberBehind_12]
    exact x_number0 hT r1 (ni_m1 (by omega)) b2 hL (h0 _ (by unfold pbeh; rw [q, if_neg (by decide)]) b2 S1 n1 r1)
end PL
end PU66
