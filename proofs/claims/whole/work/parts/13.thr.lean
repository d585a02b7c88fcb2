section THR
abbrev XeC (D : va_G) (cy : Nat → ClassId) (b z : Nat) (tx : TX) (kx : String → sSt → Prop) := vx_X (S := sSt) (fun _ => True) (fun E (u : sSt) t => kx E u ∧ RelC D cy b z tx u t t.heap) (gA b 709 z)
theorem va_S.wide {A B : Nat → Prop} {H0 H : Heap} {locs : List Loc} (h : va_S A H0 H locs) (hAB : ∀ q, A q → B q) : va_S B H0 H locs := ⟨h.1, fun q h1 h2 => h.2.1 q h1 (fun h3 => h2 (hAB q h3)), fun q hq => hAB _ (h.2.2 q hq)⟩
theorem TxP.inA {tx : TX} {b z n : Nat} {U : State} {H : Heap} (h : TxP tx b z U H) : ∀ q, gA b n z q → TxA tx q := by
  intro q hg
  have h1 := h.1
  have h2 := h.2.1
  show tx.1 ≤ q
  rcases hg with hg | hg
  · exact Nat.le_trans h1 hg.1
  · exact Nat.le_trans h2 hg
theorem vxi_0 : ∀ w ∈ vx_at0 RX11 70 "java/lang/IllegalArgumentException" ["java/lang/RuntimeException", "java/lang/Exception"], w ∈ lw_tbl := by decide +kernel
theorem vxg_0 : ∀ w ∈ vx_at0 RX11 70 "java/lang/IllegalArgumentException" ["java/lang/RuntimeException", "java/lang/Exception"], (goodWord w || isN w) = true := List.all_eq_true.mp (by decide +kernel)
theorem vxo_0 : ∀ w ∈ Cond.classLink RX11 68 "java/lang/IllegalArgumentException" :: Cond.initialized "java/lang/IllegalArgumentException" :: vx_at0 RX11 70 "java/lang/IllegalArgumentException" ["java/lang/RuntimeException", "java/lang/Exception"], vx_ot w = true := List.all_eq_true.mp (by decide +kernel)
theorem vxh_0 {s : State} {args : Array Value} {tx : TX} (hts : ∀ w ∈ TB, w.before args s = true) (hT : TxR tx s) : ∀ w ∈ vx_at0 RX11 70 "java/lang/IllegalArgumentException" ["java/lang/RuntimeException", "java/lang/Exception"], w.before args s = true := by
  intro w hw
  have h1 := vxg_0 w hw
  have h2 := vxi_0 w hw
  rw [Bool.or_eq_true] at h1
  rcases h1 with h1 | h1
  · exact hts w (List.mem_filter.mpr ⟨h2, h1⟩)
  · exact (hT.2 w (List.mem_filter.mpr ⟨h2, h1⟩)).use (nb_tab h1)
theorem vxi_1 : ∀ w ∈ vx_at0 RX11 76 "java/lang/UnsupportedOperationException" ["java/lang/RuntimeException", "java/lang/Exception"], w ∈ lw_tbl := by decide +kernel
theorem vxg_1 : ∀ w ∈ vx_at0 RX11 76 "java/lang/UnsupportedOperationException" ["java/lang/RuntimeException", "java/lang/Exception"], (goodWord w || isN w) = true := List.all_eq_true.mp (by decide +kernel)
theorem vxo_1 : ∀ w ∈ Cond.classLink RX11 74 "java/lang/UnsupportedOperationException" :: Cond.initialized "java/lang/UnsupportedOperationException" :: vx_at0 RX11 76 "java/lang/UnsupportedOperationException" ["java/lang/RuntimeException", "java/lang/Exception"], vx_ot w = true := List.all_eq_true.mp (by decide +kernel)
theorem vxh_1 {s : State} {args : Array Value} {tx : TX} (hts : ∀ w ∈ TB, w.before args s = true) (hT : TxR tx s) : ∀ w ∈ vx_at0 RX11 76 "java/lang/UnsupportedOperationException" ["java/lang/RuntimeException", "java/lang/Exception"], w.before args s = true := by
  intro w hw
  have h1 := vxg_1 w hw
  have h2 := vxi_1 w hw
  rw [Bool.or_eq_true] at h1
  rcases h1 with h1 | h1
  · exact hts w (List.mem_filter.mpr ⟨h2, h1⟩)
  · exact (hT.2 w (List.mem_filter.mpr ⟨h2, h1⟩)).use (nb_tab h1)
theorem vxi_2 : ∀ w ∈ vx_at0 RX11 273 "java/lang/IndexOutOfBoundsException" ["java/lang/RuntimeException", "java/lang/Exception"], w ∈ lw_tbl := by decide +kernel
theorem vxg_2 : ∀ w ∈ vx_at0 RX11 273 "java/lang/IndexOutOfBoundsException" ["java/lang/RuntimeException", "java/lang/Exception"], (goodWord w || isN w) = true := List.all_eq_true.mp (by decide +kernel)
theorem vxo_2 : ∀ w ∈ Cond.classLink RX11 271 "java/lang/IndexOutOfBoundsException" :: Cond.initialized "java/lang/IndexOutOfBoundsException" :: vx_at0 RX11 273 "java/lang/IndexOutOfBoundsException" ["java/lang/RuntimeException", "java/lang/Exception"], vx_ot w = true := List.all_eq_true.mp (by decide +kernel)
theorem vxh_2 {s : State} {args : Array Value} {tx : TX} (hts : ∀ w ∈ TB, w.before args s = true) (hT : TxR tx s) : ∀ w ∈ vx_at0 RX11 273 "java/lang/IndexOutOfBoundsException" ["java/lang/RuntimeException", "java/lang/Exception"], w.before args s = true := by
  intro w hw
  have h1 := vxg_2 w hw
  have h2 := vxi_2 w hw
  rw [Bool.or_eq_true] at h1
  rcases h1 with h1 | h1
  · exact hts w (List.mem_filter.mpr ⟨h2, h1⟩)
  · exact (hT.2 w (List.mem_filter.mpr ⟨h2, h1⟩)).use (nb_tab h1)
theorem vxi_3 : ∀ w ∈ vx_at0 RX11 402 "java/lang/IllegalStateException" ["java/lang/RuntimeException", "java/lang/Exception"], w ∈ lw_tbl := by decide +kernel
theorem vxg_3 : ∀ w ∈ vx_at0 RX11 402 "java/lang/IllegalStateException" ["java/lang/RuntimeException", "java/lang/Exception"], (goodWord w || isN w) = true := List.all_eq_true.mp (by decide +kernel)
theorem vxo_3 : ∀ w ∈ Cond.classLink RX11 400 "java/lang/IllegalStateException" :: Cond.initialized "java/lang/IllegalStateException" :: vx_at0 RX11 402 "java/lang/IllegalStateException" ["java/lang/RuntimeException", "java/lang/Exception"], vx_ot w = true := List.all_eq_true.mp (by decide +kernel)
theorem vxh_3 {s : State} {args : Array Value} {tx : TX} (hts : ∀ w ∈ TB, w.before args s = true) (hT : TxR tx s) : ∀ w ∈ vx_at0 RX11 402 "java/lang/IllegalStateException" ["java/lang/RuntimeException", "java/lang/Exception"], w.before args s = true := by
  intro w hw
  have h1 := vxg_3 w hw
  have h2 := vxi_3 w hw
  rw [Bool.or_eq_true] at h1
  rcases h1 with h1 | h1
  · exact hts w (List.mem_filter.mpr ⟨h2, h1⟩)
  · exact (hT.2 w (List.mem_filter.mpr ⟨h2, h1⟩)).use (nb_tab h1)
theorem vxi_4 : ∀ w ∈ vx_at0 RX11 249 "java/util/NoSuchElementException" ["java/lang/RuntimeException", "java/lang/Exception"], w ∈ lw_tbl := by decide +kernel
theorem vxg_4 : ∀ w ∈ vx_at0 RX11 249 "java/util/NoSuchElementException" ["java/lang/RuntimeException", "java/lang/Exception"], (goodWord w || isN w) = true := List.all_eq_true.mp (by decide +kernel)
theorem vxo_4 : ∀ w ∈ Cond.classLink RX11 247 "java/util/NoSuchElementException" :: Cond.initialized "java/util/NoSuchElementException" :: vx_at0 RX11 249 "java/util/NoSuchElementException" ["java/lang/RuntimeException", "java/lang/Exception"], vx_ot w = true := List.all_eq_true.mp (by decide +kernel)
theorem vxh_4 {s : State} {args : Array Value} {tx : TX} (hts : ∀ w ∈ TB, w.before args s = true) (hT : TxR tx s) : ∀ w ∈ vx_at0 RX11 249 "java/util/NoSuchElementException" ["java/lang/RuntimeException", "java/lang/Exception"], w.before args s = true := by
  intro w hw
  have h1 := vxg_4 w hw
  have h2 := vxi_4 w hw
  rw [Bool.or_eq_true] at h1
  rcases h1 with h1 | h1
  · exact hts w (List.mem_filter.mpr ⟨h2, h1⟩)
  · exact (hT.2 w (List.mem_filter.mpr ⟨h2, h1⟩)).use (nb_tab h1)
section RX
variable {p : Program} {l : Launch} {e : Env} {R : Room} {s : State} {m : MethodId} {args : Array Value} {below : List Frame} {meth : Method} {c : Code} {H : Heap} {locs : List Loc} {cells slots mcT msT : Nat} {Qc : Array Value → State → Outcome → State → Prop}
variable {cc : ByteArray} {nL : Nat} {Ts : List Cond} {own : String} {pc : Nat} {ls : Array Slot} {rest : List Value} {D : va_G} {cy : Nat → ClassId} {b z : Nat} {tx : TX} {S : sSt} {kx : String → sSt → Prop}
theorem w_throw_0 (C0 : CallFix p m c cc nL s args TB RX11) (hl0 : l.stackTraces = false) (hX0 : TxP tx b z s s.heap) (hT : TxR tx s) (hR : RelC D cy b z tx S s H) (hS : va_S (gA b 709 z) s.heap H locs) (hsz : ls.size = nL) (hexc : ∀ x ∈ c.exceptionTable.toList, False) (hlk : meth.locks = false) (h : kx "java/lang/IllegalArgumentException" S) (l1 : Cond.classLink RX11 68 "java/lang/IllegalArgumentException" ∈ TB) (l2 : Cond.initialized "java/lang/IllegalArgumentException" ∈ TB)
    (d0 : decode cc pc = .ok (.new 68, 3)) (d3 : decode cc (pc + 3) = .ok (.dup, 1)) (d4 : decode cc (pc + 4) = .ok (.invokespecial 70, 3)) (d7 : decode cc (pc + 7) = .ok (.athrow, 1)) (hfr : 5 < R.frames) (hlo : (rest.map fun v => v.category).sum + 81 ≤ R.locals) (hc1 : cells + 1 ≤ R.cells) (hs1 : slots + 6 ≤ R.slots) (hc : cells + 1 ≤ mcT) (hs : slots + 6 ≤ msT) :
    W p l e R s m args below meth c H locs cells slots (vx_MQ below Qc (XeC D cy b z tx kx) args s mcT msT (gA b 709 z)) (F0 m pc ls rest) :=
  vx_throw0 (names := ["java/lang/RuntimeException", "java/lang/Exception"]) C0.1 C0.2.1 hl0 C0.2.2.2.1 (by decide +kernel) (by decide +kernel) (C0.2.2.2.2 _ l1) (C0.2.2.2.2 _ l2) (vxh_0 C0.2.2.2.2 hT) vxo_0 hX0.2.2.2.2.2.1 hX0.2.2.2.2.2.2 (hS.wide hX0.inA) (hsz.trans C0.2.2.1.symm) d0 d3 d4 d7 (fun x hx => (hexc x hx).elim) hfr hlo hc1 hs1 hlk
    (fun t hv hz hq => ⟨S, trivial, ⟨h, (hR.stay hz hq).moved hv⟩, Nat.le_trans hS.1 hz, fun q h1 h2 => (hq q (Nat.lt_of_lt_of_le h1 hS.1)).trans (hS.2.1 q h1 h2)⟩) hS.2.2 hc hs
theorem w_throw_1 (C0 : CallFix p m c cc nL s args TB RX11) (hl0 : l.stackTraces = false) (hX0 : TxP tx b z s s.heap) (hT : TxR tx s) (hR : RelC D cy b z tx S s H) (hS : va_S (gA b 709 z) s.heap H locs) (hsz : ls.size = nL) (hexc : ∀ x ∈ c.exceptionTable.toList, False) (hlk : meth.locks = false) (h : kx "java/lang/UnsupportedOperationException" S) (l1 : Cond.classLink RX11 74 "java/lang/UnsupportedOperationException" ∈ TB) (l2 : Cond.initialized "java/lang/UnsupportedOperationException" ∈ TB)
    (d0 : decode cc pc = .ok (.new 74, 3)) (d3 : decode cc (pc + 3) = .ok (.dup, 1)) (d4 : decode cc (pc + 4) = .ok (.invokespecial 76, 3)) (d7 : decode cc (pc + 7) = .ok (.athrow, 1)) (hfr : 5 < R.frames) (hlo : (rest.map fun v => v.category).sum + 81 ≤ R.locals) (hc1 : cells + 1 ≤ R.cells) (hs1 : slots + 6 ≤ R.slots) (hc : cells + 1 ≤ mcT) (hs : slots + 6 ≤ msT) :
    W p l e R s m args below meth c H locs cells slots (vx_MQ below Qc (XeC D cy b z tx kx) args s mcT msT (gA b 709 z)) (F0 m pc ls rest) :=
  vx_throw0 (names := ["java/lang/RuntimeException", "java/lang/Exception"]) C0.1 C0.2.1 hl0 C0.2.2.2.1 (by decide +kernel) (by decide +kernel) (C0.2.2.2.2 _ l1) (C0.2.2.2.2 _ l2) (vxh_1 C0.2.2.2.2 hT) vxo_1 hX0.2.2.2.2.2.1 hX0.2.2.2.2.2.2 (hS.wide hX0.inA) (hsz.trans C0.2.2.1.symm) d0 d3 d4 d7 (fun x hx => (hexc x hx).elim) hfr hlo hc1 hs1 hlk
    (fun t hv hz hq => ⟨S, trivial, ⟨h, (hR.stay hz hq).moved hv⟩, Nat.le_trans hS.1 hz, fun q h1 h2 => (hq q (Nat.lt_of_lt_of_le h1 hS.1)).trans (hS.2.1 q h1 h2)⟩) hS.2.2 hc hs
theorem w_throw_2 (C0 : CallFix p m c cc nL s args TB RX11) (hl0 : l.stackTraces = false) (hX0 : TxP tx b z s s.heap) (hT : TxR tx s) (hR : RelC D cy b z tx S s H) (hS : va_S (gA b 709 z) s.heap H locs) (hsz : ls.size = nL) (hexc : ∀ x ∈ c.exceptionTable.toList, False) (hlk : meth.locks = false) (h : kx "java/lang/IndexOutOfBoundsException" S) (l1 : Cond.classLink RX11 271 "java/lang/IndexOutOfBoundsException" ∈ TB) (l2 : Cond.initialized "java/lang/IndexOutOfBoundsException" ∈ TB)
    (d0 : decode cc pc = .ok (.new 271, 3)) (d3 : decode cc (pc + 3) = .ok (.dup, 1)) (d4 : decode cc (pc + 4) = .ok (.invokespecial 273, 3)) (d7 : decode cc (pc + 7) = .ok (.athrow, 1)) (hfr : 5 < R.frames) (hlo : (rest.map fun v => v.category).sum + 81 ≤ R.locals) (hc1 : cells + 1 ≤ R.cells) (hs1 : slots + 6 ≤ R.slots) (hc : cells + 1 ≤ mcT) (hs : slots + 6 ≤ msT) :
    W p l e R s m args below meth c H locs cells slots (vx_MQ below Qc (XeC D cy b z tx kx) args s mcT msT (gA b 709 z)) (F0 m pc ls rest) :=
  vx_throw0 (names := ["java/lang/RuntimeException", "java/lang/Exception"]) C0.1 C0.2.1 hl0 C0.2.2.2.1 (by decide +kernel) (by decide +kernel) (C0.2.2.2.2 _ l1) (C0.2.2.2.2 _ l2) (vxh_2 C0.2.2.2.2 hT) vxo_2 hX0.2.2.2.2.2.1 hX0.2.2.2.2.2.2 (hS.wide hX0.inA) (hsz.trans C0.2.2.1.symm) d0 d3 d4 d7 (fun x hx => (hexc x hx).elim) hfr hlo hc1 hs1 hlk
    (fun t hv hz hq => ⟨S, trivial, ⟨h, (hR.stay hz hq).moved hv⟩, Nat.le_trans hS.1 hz, fun q h1 h2 => (hq q (Nat.lt_of_lt_of_le h1 hS.1)).trans (hS.2.1 q h1 h2)⟩) hS.2.2 hc hs
theorem w_throw_3 (C0 : CallFix p m c cc nL s args TB RX11) (hl0 : l.stackTraces = false) (hX0 : TxP tx b z s s.heap) (hT : TxR tx s) (hR : RelC D cy b z tx S s H) (hS : va_S (gA b 709 z) s.heap H locs) (hsz : ls.size = nL) (hexc : ∀ x ∈ c.exceptionTable.toList, False) (hlk : meth.locks = false) (h : kx "java/lang/IllegalStateException" S) (l1 : Cond.classLink RX11 400 "java/lang/IllegalStateException" ∈ TB) (l2 : Cond.initialized "java/lang/IllegalStateException" ∈ TB)
    (d0 : decode cc pc = .ok (.new 400, 3)) (d3 : decode cc (pc + 3) = .ok (.dup, 1)) (d4 : decode cc (pc + 4) = .ok (.invokespecial 402, 3)) (d7 : decode cc (pc + 7) = .ok (.athrow, 1)) (hfr : 5 < R.frames) (hlo : (rest.map fun v => v.category).sum + 81 ≤ R.locals) (hc1 : cells + 1 ≤ R.cells) (hs1 : slots + 6 ≤ R.slots) (hc : cells + 1 ≤ mcT) (hs : slots + 6 ≤ msT) :
    W p l e R s m args below meth c H locs cells slots (vx_MQ below Qc (XeC D cy b z tx kx) args s mcT msT (gA b 709 z)) (F0 m pc ls rest) :=
  vx_throw0 (names := ["java/lang/RuntimeException", "java/lang/Exception"]) C0.1 C0.2.1 hl0 C0.2.2.2.1 (by decide +kernel) (by decide +kernel) (C0.2.2.2.2 _ l1) (C0.2.2.2.2 _ l2) (vxh_3 C0.2.2.2.2 hT) vxo_3 hX0.2.2.2.2.2.1 hX0.2.2.2.2.2.2 (hS.wide hX0.inA) (hsz.trans C0.2.2.1.symm) d0 d3 d4 d7 (fun x hx => (hexc x hx).elim) hfr hlo hc1 hs1 hlk
    (fun t hv hz hq => ⟨S, trivial, ⟨h, (hR.stay hz hq).moved hv⟩, Nat.le_trans hS.1 hz, fun q h1 h2 => (hq q (Nat.lt_of_lt_of_le h1 hS.1)).trans (hS.2.1 q h1 h2)⟩) hS.2.2 hc hs
theorem w_throw_4 (C0 : CallFix p m c cc nL s args TB RX11) (hl0 : l.stackTraces = false) (hX0 : TxP tx b z s s.heap) (hT : TxR tx s) (hR : RelC D cy b z tx S s H) (hS : va_S (gA b 709 z) s.heap H locs) (hsz : ls.size = nL) (hexc : ∀ x ∈ c.exceptionTable.toList, False) (hlk : meth.locks = false) (h : kx "java/util/NoSuchElementException" S) (l1 : Cond.classLink RX11 247 "java/util/NoSuchElementException" ∈ TB) (l2 : Cond.initialized "java/util/NoSuchElementException" ∈ TB)
    (d0 : decode cc pc = .ok (.new 247, 3)) (d3 : decode cc (pc + 3) = .ok (.dup, 1)) (d4 : decode cc (pc + 4) = .ok (.invokespecial 249, 3)) (d7 : decode cc (pc + 7) = .ok (.athrow, 1)) (hfr : 5 < R.frames) (hlo : (rest.map fun v => v.category).sum + 81 ≤ R.locals) (hc1 : cells + 1 ≤ R.cells) (hs1 : slots + 6 ≤ R.slots) (hc : cells + 1 ≤ mcT) (hs : slots + 6 ≤ msT) :
    W p l e R s m args below meth c H locs cells slots (vx_MQ below Qc (XeC D cy b z tx kx) args s mcT msT (gA b 709 z)) (F0 m pc ls rest) :=
  vx_throw0 (names := ["java/lang/RuntimeException", "java/lang/Exception"]) C0.1 C0.2.1 hl0 C0.2.2.2.1 (by decide +kernel) (by decide +kernel) (C0.2.2.2.2 _ l1) (C0.2.2.2.2 _ l2) (vxh_4 C0.2.2.2.2 hT) vxo_4 hX0.2.2.2.2.2.1 hX0.2.2.2.2.2.2 (hS.wide hX0.inA) (hsz.trans C0.2.2.1.symm) d0 d3 d4 d7 (fun x hx => (hexc x hx).elim) hfr hlo hc1 hs1 hlk
    (fun t hv hz hq => ⟨S, trivial, ⟨h, (hR.stay hz hq).moved hv⟩, Nat.le_trans hS.1 hz, fun q h1 h2 => (hq q (Nat.lt_of_lt_of_le h1 hS.1)).trans (hS.2.1 q h1 h2)⟩) hS.2.2 hc hs
theorem vx_callr {Q : State → Prop} {mc ms : Nat} {free : Addr → Prop} {A0 A1 : Nat → Prop} {H0 : Heap} {a : Array Value} {st0 : List Value} {S SX : Type} {post : S → Prop} {px : SX → Prop} {B : S → Nat → State → Prop} {BX : String → SX → State → Prop} {AX : Nat → Prop} (hr : vx_Run p l e R s m args below meth c H locs cells slots mc ms (F0 m pc ls st0) rest (va_Qr post B A1 a) (vx_X px BX AX) free) (hS : va_S A0 H0 H locs) (hA : ∀ q, q < H.size → A1 q → A0 q) (hf : ∀ q, free q → A0 q) (hAX : ∀ q, q < H.size → AX q → A0 q)
    (kx : ∀ (E : String) (ce : Cell) (q9 : Addr) (u : SX) (t : State) (H1 : Heap) (locs1 : List Loc), t.heap = H1 → s.vm.Alike t.vm → px u → BX E u t → H.size ≤ H1.size → (∀ q : Nat, q < H.size → ¬ AX q → H1[q]? = H[q]?) → va_S A0 H0 H1 locs1 → H1[q9]? = some ce → ce.vm = .none → s.vm.findClass E = some ce.cls → vx_W p l e R s m args below meth c H1 locs1 (cells + mc) (slots + ms) Q (F0 m pc ls rest) q9)
    (kk : ∀ (u : S) (ra : Nat) (t : State) (H1 : Heap) (locs1 : List Loc), t.heap = H1 → s.vm.Alike t.vm → post u → B u ra t → H.size ≤ H1.size → (∀ q : Nat, q < H.size → ¬ A1 q → H1[q]? = H[q]?) → va_S A0 H0 H1 locs1 → W p l e R s m args below meth c H1 locs1 (cells + mc) (slots + ms) Q (F0 m (pc + 3) ls (.ref ra :: rest))) : W p l e R s m args below meth c H locs cells slots Q (F0 m pc ls st0) := by
  intro T hT X
  rcases hr T hT X with ⟨v, st₀, t, T', L, h0, X', hL, e1, e2, ⟨⟨u, ra, hv, hp, hb⟩, hF⟩, st⟩ | ⟨q, st₀, t, T', L, E, ce, h0, X', hL, e1, e2, ⟨u, hp, hb, hF⟩, hce, hcv, hcl, st⟩
  · cases hv
    obtain ⟨k1, k2, k3⟩ := vx_keep h0 e1 hS hA hf hL hF
    obtain ⟨t2, a1, b1⟩ := kk u ra t T'.heap (locs ++ L) e1.symm (by rw [← e2]; exact X'.warmed.alike) hp hb k1 k2 k3 T' rfl X'
    exact ⟨t2, st t2 a1, b1⟩
  · obtain ⟨k1, k2, k3⟩ := vx_keep h0 e1 hS hAX hf hL hF
    obtain ⟨t2, a1, b1⟩ := kx E ce q u t T'.heap (locs ++ L) e1.symm (by rw [← e2]; exact X'.warmed.alike) hp hb k1 k2 k3 (by rw [e1]; exact hce) hcv hcl T' rfl X'
    exact ⟨t2, st.trans a1, b1⟩
theorem qx_Vi (C0 : CallFix p m c cc nL s args Ts own) (hlk : meth.locks = false) (hexc : ∀ x ∈ c.exceptionTable.toList, False) {y : MethodName} {ws : List Cond} {rm : Room} {bytes : ByteArray} {maxL index n mc ms : Nat} {ret : Option FieldType} {C : String} {a : Nat} {As : List Value} {k : Int32 → sSt → Prop} (hM : vx_Met l y ws rm (va_Pc (.ref a :: As) (fun U => RelC D cy b z tx S U U.heap ∧ TxR tx U)) (PiC D cy b z tx k) (XeC D cy b z tx kx) mc ms (gA b 709 z)) (cw : CallW R s args own C index y bytes maxL ret ws rm mc ms n) (hrecv : ∃ cell : Cell, H[a]? = some cell ∧ cell.vm.isStatics = false ∧ s.vm.findClass C = some cell.cls) (hR : RelC D cy b z tx S s H) (hT : TxR tx s) (hS : va_S (gA b 709 z) s.heap H locs) (hn : As.length = n) (hsz : ls.size = nL) {st : List Value} (hst : st = As.reverse ++ .ref a :: rest) (hroom : (rest.map fun v => v.category).sum ≤ 8) (hdg : decode cc pc = .ok (.invokevirtual index, 3)) (hf : cells + mc ≤ R.cells ∧ slots + ms ≤ R.slots) (hfin : cells + mc ≤ mcT ∧ slots + ms ≤ msT)
    (kk : ∀ (r : Int32) (S1 : sSt) (H1 : Heap) (locs1 : List Loc), k r S1 → RelC D cy b z tx S1 s H1 → va_S (gA b 709 z) s.heap H1 locs1 → W p l e R s m args below meth c H1 locs1 (cells + mc) (slots + ms) (vx_MQ below Qc (XeC D cy b z tx kx) args s mcT msT (gA b 709 z)) (F0 m (pc + 3) ls (.int r :: rest))) : W p l e R s m args below meth c H locs cells slots (vx_MQ below Qc (XeC D cy b z tx kx) args s mcT msT (gA b 709 z)) (F0 m pc ls st) :=
  vx_calli (vx_runV (As := As) (rest := rest) C0 hM cw ⟨fun a9 U g mk q => ⟨q.1, RelC.moved (u := U) (U := U.calling g mk a9) (Vm.Alike.refl U.vm) q.2.1, TxR.same (u := U) (U := U.calling g mk a9) rfl q.2.2⟩, hrecv, fun U hU hW => ⟨rfl, hR.ato hU hW.alike, hT.warm hW⟩⟩ rfl hn hsz hst (lv_room hroom) hdg hf) hS (fun q _ h => h) (fun q h => h) (fun q _ h => h)
    (fun E ce q9 u t H1 locs1 ht hvm hpx hBX hz hk hS1 hce hcv hcl => vx_out (fun x hx => (hexc x hx).elim) hlk hce hcv hcl (fun t' ht' hv' => ⟨u, trivial, ⟨hBX.1, (RelC.bak ht hBX.2 hvm.symm).ato ht' hv'⟩, hS1.F ht'⟩) hS1.2.2 hfin.1 hfin.2)
    (fun r S1 t H1 locs1 ht hvm hw hB hz1 hk1 hS1 => kk r S1 H1 locs1 hw (RelC.bak ht hB hvm.symm) hS1)
theorem qx_Vv (C0 : CallFix p m c cc nL s args Ts own) (hlk : meth.locks = false) (hexc : ∀ x ∈ c.exceptionTable.toList, False) {y : MethodName} {ws : List Cond} {rm : Room} {bytes : ByteArray} {maxL index n mc ms : Nat} {ret : Option FieldType} {C : String} {a : Nat} {As : List Value} {k : sSt → Prop} (hM : vx_Met l y ws rm (va_Pc (.ref a :: As) (fun U => RelC D cy b z tx S U U.heap ∧ TxR tx U)) (PvC D cy b z tx k) (XeC D cy b z tx kx) mc ms (gA b 709 z)) (cw : CallW R s args own C index y bytes maxL ret ws rm mc ms n) (hrecv : ∃ cell : Cell, H[a]? = some cell ∧ cell.vm.isStatics = false ∧ s.vm.findClass C = some cell.cls) (hR : RelC D cy b z tx S s H) (hT : TxR tx s) (hS : va_S (gA b 709 z) s.heap H locs) (hn : As.length = n) (hsz : ls.size = nL) {st : List Value} (hst : st = As.reverse ++ .ref a :: rest) (hroom : (rest.map fun v => v.category).sum ≤ 8) (hdg : decode cc pc = .ok (.invokevirtual index, 3)) (hf : cells + mc ≤ R.cells ∧ slots + ms ≤ R.slots) (hfin : cells + mc ≤ mcT ∧ slots + ms ≤ msT)
    (kk : ∀ (S1 : sSt) (H1 : Heap) (locs1 : List Loc), k S1 → RelC D cy b z tx S1 s H1 → va_S (gA b 709 z) s.heap H1 locs1 → W p l e R s m args below meth c H1 locs1 (cells + mc) (slots + ms) (vx_MQ below Qc (XeC D cy b z tx kx) args s mcT msT (gA b 709 z)) (F0 m (pc + 3) ls (rest))) : W p l e R s m args below meth c H locs cells slots (vx_MQ below Qc (XeC D cy b z tx kx) args s mcT msT (gA b 709 z)) (F0 m pc ls st) :=
  vx_callv (vx_runV (As := As) (rest := rest) C0 hM cw ⟨fun a9 U g mk q => ⟨q.1, RelC.moved (u := U) (U := U.calling g mk a9) (Vm.Alike.refl U.vm) q.2.1, TxR.same (u := U) (U := U.calling g mk a9) rfl q.2.2⟩, hrecv, fun U hU hW => ⟨rfl, hR.ato hU hW.alike, hT.warm hW⟩⟩ rfl hn hsz hst (lv_room hroom) hdg hf) hS (fun q _ h => h) (fun q h => h) (fun q _ h => h)
    (fun E ce q9 u t H1 locs1 ht hvm hpx hBX hz hk hS1 hce hcv hcl => vx_out (fun x hx => (hexc x hx).elim) hlk hce hcv hcl (fun t' ht' hv' => ⟨u, trivial, ⟨hBX.1, (RelC.bak ht hBX.2 hvm.symm).ato ht' hv'⟩, hS1.F ht'⟩) hS1.2.2 hfin.1 hfin.2)
    (fun S1 t H1 locs1 ht hvm hw hB hz1 hk1 hS1 => kk S1 H1 locs1 hw (RelC.bak ht hB hvm.symm) hS1)
theorem qx_Vr (C0 : CallFix p m c cc nL s args Ts own) (hlk : meth.locks = false) (hexc : ∀ x ∈ c.exceptionTable.toList, False) {y : MethodName} {ws : List Cond} {rm : Room} {bytes : ByteArray} {maxL index n mc ms : Nat} {ret : Option FieldType} {C : String} {a : Nat} {kd n9 : Nat} {As : List Value} {k : Nat → sSt → Prop} (hM : vx_Met l y ws rm (va_Pc (.ref a :: As) (fun U => RelC D cy b z tx S U U.heap ∧ TxR tx U)) (PrC D cy b z tx kd n9 k) (XeC D cy b z tx kx) mc ms (gA b 709 z)) (cw : CallW R s args own C index y bytes maxL ret ws rm mc ms n) (hrecv : ∃ cell : Cell, H[a]? = some cell ∧ cell.vm.isStatics = false ∧ s.vm.findClass C = some cell.cls) (hR : RelC D cy b z tx S s H) (hT : TxR tx s) (hS : va_S (gA b 709 z) s.heap H locs) (hn : As.length = n) (hsz : ls.size = nL) {st : List Value} (hst : st = As.reverse ++ .ref a :: rest) (hroom : (rest.map fun v => v.category).sum ≤ 8) (hdg : decode cc pc = .ok (.invokevirtual index, 3)) (hf : cells + mc ≤ R.cells ∧ slots + ms ≤ R.slots) (hfin : cells + mc ≤ mcT ∧ slots + ms ≤ msT)
    (kk : ∀ (r : Nat) (S1 : sSt) (H1 : Heap) (locs1 : List Loc), r < n9 → k r S1 → RelC D cy b z tx S1 s H1 → va_S (gA b 709 z) s.heap H1 locs1 → W p l e R s m args below meth c H1 locs1 (cells + mc) (slots + ms) (vx_MQ below Qc (XeC D cy b z tx kx) args s mcT msT (gA b 709 z)) (F0 m (pc + 3) ls (.ref (b + adC kd r) :: rest))) : W p l e R s m args below meth c H locs cells slots (vx_MQ below Qc (XeC D cy b z tx kx) args s mcT msT (gA b 709 z)) (F0 m pc ls st) :=
  vx_callr (vx_runV (As := As) (rest := rest) C0 hM cw ⟨fun a9 U g mk q => ⟨q.1, RelC.moved (u := U) (U := U.calling g mk a9) (Vm.Alike.refl U.vm) q.2.1, TxR.same (u := U) (U := U.calling g mk a9) rfl q.2.2⟩, hrecv, fun U hU hW => ⟨rfl, hR.ato hU hW.alike, hT.warm hW⟩⟩ rfl hn hsz hst (lv_room hroom) hdg hf) hS (fun q _ h => h) (fun q h => h) (fun q _ h => h)
    (fun E ce q9 u t H1 locs1 ht hvm hpx hBX hz hk hS1 hce hcv hcl => vx_out (fun x hx => (hexc x hx).elim) hlk hce hcv hcl (fun t' ht' hv' => ⟨u, trivial, ⟨hBX.1, (RelC.bak ht hBX.2 hvm.symm).ato ht' hv'⟩, hS1.F ht'⟩) hS1.2.2 hfin.1 hfin.2)
    (fun u ra t H1 locs1 ht hvm hw hB hz1 hk1 hS1 => by
    obtain ⟨r, S1⟩ := u
    obtain ⟨hr9, hB⟩ := hB
    subst hr9
    exact kk r S1 H1 locs1 hw.1 hw.2 (RelC.bak ht hB hvm.symm) hS1)
end RX
end THR
