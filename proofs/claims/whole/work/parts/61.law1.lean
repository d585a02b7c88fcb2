section LAW
def ncPairs : List (String × String) := [("java/lang/IllegalArgumentException", "java/lang/IllegalStateException"), ("java/lang/IllegalArgumentException", "java/lang/IndexOutOfBoundsException"), ("java/lang/IllegalStateException", "java/lang/IllegalArgumentException"), ("java/lang/IllegalStateException", "java/lang/IndexOutOfBoundsException"), ("java/lang/IndexOutOfBoundsException", "java/lang/IllegalArgumentException"), ("java/lang/UnsupportedOperationException", "java/lang/IllegalArgumentException"), ("java/lang/UnsupportedOperationException", "java/lang/IndexOutOfBoundsException"), ("java/util/NoSuchElementException", "java/lang/IndexOutOfBoundsException")]
def TxN (U : State) : Prop := ∀ q ∈ ncPairs, va_Nc q.1 q.2 U
theorem TxN.moved {u U : State} (hvm : u.vm.Alike U.vm) (h : TxN u) : TxN U := fun q hq => (h q hq).moved hvm
abbrev bA (b : Nat) : Nat → Prop := fun q => b ≤ q
def RelO (D : va_G) (cy : Nat → ClassId) (b : Nat) (o : Int64) (U : State) (H : Heap) : Prop := va_P D vwCl [(b + 721, .inl (cy 8, 1, .inr (.inl (fun _ => o))))] H ∧ va_K D vwCl [(cy 8, .long)] U
def RelL (D : va_G) (cy : Nat → ClassId) (b : Nat) (tx : TX) (Sc Sm : sSt) (o : Int64) (U : State) (H : Heap) : Prop := RelC D cy b (b + 722) tx Sc U H ∧ RelM D cy (b + 709) (b + 722) tx Sm U H ∧ RelO D cy b o U H
theorem RelO.moved {D : va_G} {cy : Nat → ClassId} {b : Nat} {o : Int64} {u U : State} {H : Heap} (hvm : u.vm.Alike U.vm) (h : RelO D cy b o u H) : RelO D cy b o U H := ⟨h.1, va_K.moved hvm h.2⟩
theorem RelL.moved {D : va_G} {cy : Nat → ClassId} {b : Nat} {tx : TX} {Sc Sm : sSt} {o : Int64} {u U : State} {H : Heap} (hvm : u.vm.Alike U.vm) (h : RelL D cy b tx Sc Sm o u H) : RelL D cy b tx Sc Sm o U H := ⟨h.1.moved hvm, h.2.1.moved hvm, h.2.2.moved hvm⟩
theorem RelL.ato {D : va_G} {cy : Nat → ClassId} {b : Nat} {tx : TX} {Sc Sm : sSt} {o : Int64} {s t : State} {H : Heap} (h : RelL D cy b tx Sc Sm o s H) (ht : t.heap = H) (hvm : s.vm.Alike t.vm) : RelL D cy b tx Sc Sm o t t.heap := by
  rw [ht]; exact h.moved hvm
theorem RelL.bak {D : va_G} {cy : Nat → ClassId} {b : Nat} {tx : TX} {Sc Sm : sSt} {o : Int64} {s t : State} {H : Heap} (ht : t.heap = H) (h : RelL D cy b tx Sc Sm o t t.heap) (hvm : t.vm.Alike s.vm) : RelL D cy b tx Sc Sm o s H := by
  rw [ht] at h; exact h.moved hvm
theorem RelL.keepC {D : va_G} {cy : Nat → ClassId} {b : Nat} {tx : TX} {Sc S1 Sm : sSt} {o : Int64} {s : State} {H H1 : Heap} (h : RelL D cy b tx Sc Sm o s H) (h1 : RelC D cy b (b + 722) tx S1 s H1) (hz : H.size ≤ H1.size) (hq : ∀ q : Nat, q < H.size → ¬ gA b 709 (b + 722) q → H1[q]? = H[q]?) : RelL D cy b tx S1 Sm o s H1 := by
  obtain ⟨hc, hm, ho⟩ := h
  have hsz : b + 722 ≤ H.size := hm.1.2.2
  refine ⟨h1, ⟨hm.1.kept hz fun q q1 q2 => hq q (by omega) (fun g => by rcases g with g | g <;> omega), trivial, ⟨hm.2.2.1, hm.2.2.2.1, h1.2.2.2.2⟩⟩, ho.1.kept fun k q hk => ?_, ho.2⟩
  match k, hk with
  | 0, hk => cases hk; exact hq _ (by show b + 721 < H.size; omega) (fun g => by rcases g with g | g <;> (dsimp only at g; omega))
  | k + 1, hk => simp at hk
theorem RelL.keepM {D : va_G} {cy : Nat → ClassId} {b : Nat} {tx : TX} {Sc S1 Sm : sSt} {o : Int64} {s : State} {H H1 : Heap} (h : RelL D cy b tx Sc Sm o s H) (h1 : RelM D cy (b + 709) (b + 722) tx S1 s H1) (hz : H.size ≤ H1.size) (hq : ∀ q : Nat, q < H.size → ¬ gA (b + 709) 12 (b + 722) q → H1[q]? = H[q]?) : RelL D cy b tx Sc S1 o s H1 := by
  obtain ⟨hc, hm, ho⟩ := h
  have hsz : b + 722 ≤ H.size := hm.1.2.2
  refine ⟨⟨hc.1.kept hz fun q q1 q2 => hq q (by omega) (fun g => by rcases g with g | g <;> omega), hc.2.1, ⟨hc.2.2.1, hc.2.2.2.1, h1.2.2.2.2⟩⟩, h1, ho.1.kept fun k q hk => ?_, ho.2⟩
  match k, hk with
  | 0, hk => cases hk; exact hq _ (by show b + 721 < H.size; omega) (fun g => by rcases g with g | g <;> (dsimp only at g; omega))
  | k + 1, hk => simp at hk
theorem RelL.putO {D : va_G} {cy : Nat → ClassId} {b : Nat} {tx : TX} {Sc Sm : sSt} {o o1 : Int64} {s : State} {H H1 : Heap} (h : RelL D cy b tx Sc Sm o s H) (h1 : RelO D cy b o1 s H1) (hz : H.size ≤ H1.size) (hq : ∀ q : Nat, q < H.size → q ≠ b + 721 → H1[q]? = H[q]?) : RelL D cy b tx Sc Sm o1 s H1 := by
  obtain ⟨hc, hm, ho⟩ := h
  have hsz : b + 722 ≤ H.size := hm.1.2.2
  have hX : TxW tx s H1 := hc.2.2.2.2.kept fun a ha hn => hq a ha (fun e => hn (by show tx.1 ≤ a; have := hc.2.2.1; omega))
  exact ⟨⟨hc.1.kept hz fun q q1 q2 => hq q (by omega) (by omega), hc.2.1, ⟨hc.2.2.1, hc.2.2.2.1, hX⟩⟩, ⟨hm.1.kept hz fun q q1 q2 => hq q (by omega) (by omega), trivial, ⟨hm.2.2.1, hm.2.2.2.1, hX⟩⟩, h1⟩
theorem met_ofWH {l : Launch} {y : MethodName} {ws ws' : List Cond} {rm : Room} {Pc : Array Value → State → Prop} {Qc : Array Value → State → Outcome → State → Prop} {mc ms : Nat} {free : Addr → Prop} {cc : ByteArray} {maxL : Nat} {ret : Option FieldType} {hh : List (Nat × Nat × Nat × Nat)}
    (hy : plainName y.cls = true) (hw : ws = Cond.codeWith y cc maxL ret hh :: ws')
    (body : ∀ p e s m args below meth c s₁, BodyLoose p l y (headSpec ws rm) cc maxL ret e s m args below meth c s₁ → c.maxLocals = maxL → Pc args s →
      W p l e (headSpec ws rm).room s m args below meth c s.heap [] 0 0 (MQ below Qc args s mc ms free) (entryFrame m args maxL)) : Met l y ws rm Pc Qc mc ms free := by
  refine MetFree.of_bodyS (code := cc) (maxLocals := maxL) (ret := ret) hy ?_ ?_
  · intro args s m h hn
    obtain ⟨m9, meth, c, hn9, h1, h2, h3, h4, -, h5, h6, -⟩ := Cond.codeWith_spec (atoms_spec (ws := ws) h _ (by rw [hw]; exact List.mem_cons_self))
    cases hn.symm.trans hn9
    exact ⟨meth, c, h1, h2, h3, h4, h5, h6⟩
  · intro p e s m args below meth c s₁ B hml hP _
    have hh0 : s₁.heap = s.heap := by rw [B.state]; rfl
    obtain ⟨t, a1, o, b1, b2, b3⟩ := body p e s m args below meth c s₁ B hml hP s₁ hh0 (Stand.of_body B)
    exact ⟨t, o, a1, b1, b2, ⟨b3.1, b3.2⟩⟩
section LR
variable {p : Program} {l : Launch} {e : Env} {R : Room} {s : State} {m : MethodId} {args : Array Value} {below : List Frame} {meth : Method} {c : Code} {H : Heap} {locs : List Loc} {cells slots : Nat} {Q : State → Prop}
variable {cc : ByteArray} {nL : Nat} {Ts : List Cond} {own : String} {pc : Nat} {ls : Array Slot} {rest : List Value} {D : va_G} {cy : Nat → ClassId} {b : Nat} {tx : TX} {Sc Sm : sSt} {o : Int64}
theorem gA_bA {b n z : Nat} (h : b ≤ z) : ∀ q, gA b n z q → bA b q := fun q g => by
  rcases g with g | g
  · exact g.1
  · exact Nat.le_trans h g
theorem lw_sld (C0 : CallFix p m c cc nL s args Ts own) {b0 L : Nat} {xs : Nat → Int32} (hX : va_X b0 L xs s s.heap) (hbl : b0 < s.heap.size) (hb1 : b = s.heap.size) (hS : va_S (bA b) s.heap H locs) {x v : Int32} {j : Nat} (hx : x = nI j) (hj : j < L) (hL : L ≤ 3072) (hv : xs j = v) (hdg : decode cc pc = .ok (.iaload, 1))
    (kk : W p l e R s m args below meth c H locs cells slots Q (F0 m (pc + 1) ls (.int v :: rest))) : W p l e R s m args below meth c H locs cells slots Q (F0 m pc ls (.int x :: .ref b0 :: rest)) := by
  subst hx
  refine va_sld C0.1 C0.2.1 hX hbl (A := bA b) (fun h => by have h : b ≤ b0 := h; omega) hS (vp_in_nI hj (by omega)) hdg ?_
  rw [nI_clamp (by omega), hv]
  exact kk
theorem lw_out (C0 : CallFix p m c cc nL s args Ts own) (hR : RelL D cy b tx Sc Sm o s H) (hdg : decode cc pc = .ok (.laload, 1))
    (kk : W p l e R s m args below meth c H locs cells slots Q (F0 m (pc + 1) ls (.long o :: rest))) : W p l e R s m args below meth c H locs cells slots Q (F0 m pc ls (.int 0 :: .ref (b + 721) :: rest)) :=
  va_lald C0.1 C0.2.1 hR.2.2.2 hR.2.2.1 0 0 rfl rfl (vp_in_nI (n := 0) (N := 1) (by decide) (by decide)) hdg kk
theorem arrV_ext (cI : ClassId) (N : Nat) {f g : Nat → Value} (h : ∀ j, j < N → f j = g j) : arrV cI N f = arrV cI N g := by
  have e : (fun j : Fin N => f j.val) = fun j : Fin N => g j.val := funext fun j => h _ j.isLt
  unfold arrV; rw [e]
theorem lw_put (C0 : CallFix p m c cc nL s args Ts own) (hR : RelL D cy b tx Sc Sm o s H) (hS : va_S (bA b) s.heap H locs) {v : Int64} (hdg : decode cc pc = .ok (.lastore, 1))
    (kk : ∀ (H1 : Heap) (locs1 : List Loc), RelL D cy b tx Sc Sm v s H1 → va_S (bA b) s.heap H1 locs1 → W p l e R s m args below meth c H1 locs1 cells slots Q (F0 m (pc + 1) ls rest)) : W p l e R s m args below meth c H locs cells slots Q (F0 m pc ls (.long v :: .int 0 :: .ref (b + 721) :: rest)) := by
  have hP0 := hR.2.2.1 0 _ rfl
  refine W.last C0.1 C0.2.1 hP0 ((hR.2.2.2.2 0 _ rfl).1 1 (fun j => .long o)) (fun q => by cases q) (show ¬ ((0 : Int32) < 0 ∨ (arrV (cy 8) 1 (fun _ => .long o)).slots.size ≤ (0 : Int32).toNatClampNeg) by rw [arrV_size]; decide) rfl rfl hdg fun H1 e z oq => ?_
  have hz : b + 722 ≤ H.size := hR.2.1.1.2.2
  refine kk H1 _ (hR.putO ⟨fun k q hk => ?_, hR.2.2.2⟩ (Nat.le_of_eq z.symm) (fun q _ hq => oq q hq)) (hS.put z oq (by show b ≤ b + 721; omega))
  match k, hk with
  | 0, hk =>
    cases hk
    show H1[b + 721]? = some (vp_cell _ _)
    rw [e, vp_cell_l, vp_cell_l, arrV_store]
    exact congrArg some (arrV_ext _ _ fun j hj => by have : j = 0 := by omega
                                                     subst this; rfl)
  | k + 1, hk => simp at hk
theorem gA_bA' {b b1 n z : Nat} {q : Nat} (g : gA b1 n z q) (h1 : b ≤ b1 := by omega) (h2 : b ≤ z := by omega) : bA b q := by
  show b ≤ q
  rcases g with g | g
  · exact Nat.le_trans h1 g.1
  · exact Nat.le_trans h2 g
theorem qLC_i (C0 : CallFix p m c cc nL s args Ts own) {y : MethodName} {ws : List Cond} {rm : Room} {bytes : ByteArray} {maxL index n : Nat} {ret : Option FieldType} {As : List Value} {k0 : Int32 → sSt → Prop} (hM : Met l y ws rm (va_Pc (.ref (b + adC 0 0) :: As) (fun U => RelC D cy b (b + 722) tx Sc U U.heap ∧ TxR tx U)) (PiC D cy b (b + 722) tx k0) 0 0 (gA b 709 (b + 722))) (cw : CallW R s args own RX11 index y bytes maxL ret ws rm 0 0 n) (hL : RelL D cy b tx Sc Sm o s H) (hT : TxR tx s) (hS : va_S (bA b) s.heap H locs) (hn : As.length = n) (hsz : ls.size = nL) {st : List Value} (hst : st = As.reverse ++ .ref (b + adC 0 0) :: rest) (hroom : (rest.map fun v => v.category).sum ≤ 8) (hdg : decode cc pc = .ok (.invokevirtual index, 3)) (hf : cells + 0 ≤ R.cells ∧ slots + 0 ≤ R.slots)
    (kk : ∀ (r : Int32) (S1 : sSt) (H1 : Heap) (locs1 : List Loc), k0 r S1 → RelL D cy b tx S1 Sm o s H1 → va_S (bA b) s.heap H1 locs1 → W p l e R s m args below meth c H1 locs1 cells slots Q (F0 m (pc + 3) ls (.int r :: rest))) : W p l e R s m args below meth c H locs cells slots Q (F0 m pc ls st) :=
  va_calli (va_runV (As := As) (rest := rest) C0 hM cw ⟨fun a9 U g mk q => ⟨q.1, RelC.moved (u := U) (U := U.calling g mk a9) (Vm.Alike.refl U.vm) q.2.1, TxR.same (u := U) (U := U.calling g mk a9) rfl q.2.2⟩, rcC_0 hL.1 Nat.zero_lt_one, fun U hU hW => ⟨rfl, hL.1.ato hU hW.alike, hT.warm hW⟩⟩ rfl hn hsz hst (lv_room hroom) hdg hf) hS (fun q _ h => gA_bA' h) (fun q h => gA_bA' h) (fun r S1 t H1 locs1 ht hvm hw hB hz1 hk1 hS1 => kk r S1 H1 locs1 hw (hL.keepC (RelC.bak ht hB hvm.symm) hz1 hk1) hS1)
theorem qLC_v (C0 : CallFix p m c cc nL s args Ts own) {y : MethodName} {ws : List Cond} {rm : Room} {bytes : ByteArray} {maxL index n : Nat} {ret : Option FieldType} {As : List Value} {k0 : sSt → Prop} (hM : Met l y ws rm (va_Pc (.ref (b + adC 0 0) :: As) (fun U => RelC D cy b (b + 722) tx Sc U U.heap ∧ TxR tx U)) (PvC D cy b (b + 722) tx k0) 0 0 (gA b 709 (b + 722))) (cw : CallW R s args own RX11 index y bytes maxL ret ws rm 0 0 n) (hL : RelL D cy b tx Sc Sm o s H) (hT : TxR tx s) (hS : va_S (bA b) s.heap H locs) (hn : As.length = n) (hsz : ls.size = nL) {st : List Value} (hst : st = As.reverse ++ .ref (b + adC 0 0) :: rest) (hroom : (rest.map fun v => v.category).sum ≤ 8) (hdg : decode cc pc = .ok (.invokevirtual index, 3)) (hf : cells + 0 ≤ R.cells ∧ slots + 0 ≤ R.slots)
    (kk : ∀ (S1 : sSt) (H1 : Heap) (locs1 : List Loc), k0 S1 → RelL D cy b tx S1 Sm o s H1 → va_S (bA b) s.heap H1 locs1 → W p l e R s m args below meth c H1 locs1 cells slots Q (F0 m (pc + 3) ls (rest))) : W p l e R s m args below meth c H locs cells slots Q (F0 m pc ls st) :=
  va_callv (va_runV (As := As) (rest := rest) C0 hM cw ⟨fun a9 U g mk q => ⟨q.1, RelC.moved (u := U) (U := U.calling g mk a9) (Vm.Alike.refl U.vm) q.2.1, TxR.same (u := U) (U := U.calling g mk a9) rfl q.2.2⟩, rcC_0 hL.1 Nat.zero_lt_one, fun U hU hW => ⟨rfl, hL.1.ato hU hW.alike, hT.warm hW⟩⟩ rfl hn hsz hst (lv_room hroom) hdg hf) hS (fun q _ h => gA_bA' h) (fun q h => gA_bA' h) (fun S1 t H1 locs1 ht hvm hw hB hz1 hk1 hS1 => kk S1 H1 locs1 hw (hL.keepC (RelC.bak ht hB hvm.symm) hz1 hk1) hS1)
theorem qLM_i (C0 : CallFix p m c cc nL s args Ts own) {y : MethodName} {ws : List Cond} {rm : Room} {bytes : ByteArray} {maxL index n : Nat} {ret : Option FieldType} {As : List Value} {k0 : Int32 → sSt → Prop} (hM : Met l y ws rm (va_Pc (.ref (b + 709 + adM 0 0) :: As) (fun U => RelM D cy (b + 709) (b + 722) tx Sm U U.heap ∧ TxR tx U)) (PiM D cy (b + 709) (b + 722) tx k0) 0 0 (gA (b + 709) 12 (b + 722))) (cw : CallW R s args own RX12 index y bytes maxL ret ws rm 0 0 n) (hL : RelL D cy b tx Sc Sm o s H) (hT : TxR tx s) (hS : va_S (bA b) s.heap H locs) (hn : As.length = n) (hsz : ls.size = nL) {st : List Value} (hst : st = As.reverse ++ .ref (b + 709 + adM 0 0) :: rest) (hroom : (rest.map fun v => v.category).sum ≤ 8) (hdg : decode cc pc = .ok (.invokevirtual index, 3)) (hf : cells + 0 ≤ R.cells ∧ slots + 0 ≤ R.slots)
    (kk : ∀ (r : Int32) (S1 : sSt) (H1 : Heap) (locs1 : List Loc), k0 r S1 → RelL D cy b tx Sc S1 o s H1 → va_S (bA b) s.heap H1 locs1 → W p l e R s m args below meth c H1 locs1 cells slots Q (F0 m (pc + 3) ls (.int r :: rest))) : W p l e R s m args below meth c H locs cells slots Q (F0 m pc ls st) :=
  va_calli (va_runV (As := As) (rest := rest) C0 hM cw ⟨fun a9 U g mk q => ⟨q.1, RelM.moved (u := U) (U := U.calling g mk a9) (Vm.Alike.refl U.vm) q.2.1, TxR.same (u := U) (U := U.calling g mk a9) rfl q.2.2⟩, rcM_0 hL.2.1 Nat.zero_lt_one, fun U hU hW => ⟨rfl, hL.2.1.ato hU hW.alike, hT.warm hW⟩⟩ rfl hn hsz hst (lv_room hroom) hdg hf) hS (fun q _ h => gA_bA' h) (fun q h => gA_bA' h) (fun r S1 t H1 locs1 ht hvm hw hB hz1 hk1 hS1 => kk r S1 H1 locs1 hw (hL.keepM (RelM.bak ht hB hvm.symm) hz1 hk1) hS1)
theorem qLM_v (C0 : CallFix p m c cc nL s args Ts own) {y : MethodName} {ws : List Cond} {rm : Room} {bytes : ByteArray} {maxL index n : Nat} {ret : Option FieldType} {As : List Value} {k0 : sSt → Prop} (hM : Met l y ws rm (va_Pc (.ref (b + 709 + adM 0 0) :: As) (fun U => RelM D cy (b + 709) (b + 722) tx Sm U U.heap ∧ TxR tx U)) (PvM D cy (b + 709) (b + 722) tx k0) 0 0 (gA (b + 709) 12 (b + 722))) (cw : CallW R s args own RX12 index y bytes maxL ret ws rm 0 0 n) (hL : RelL D cy b tx Sc Sm o s H) (hT : TxR tx s) (hS : va_S (bA b) s.heap H locs) (hn : As.length = n) (hsz : ls.size = nL) {st : List Value} (hst : st = As.reverse ++ .ref (b + 709 + adM 0 0) :: rest) (hroom : (rest.map fun v => v.category).sum ≤ 8) (hdg : decode cc pc = .ok (.invokevirtual index, 3)) (hf : cells + 0 ≤ R.cells ∧ slots + 0 ≤ R.slots)
    (kk : ∀ (S1 : sSt) (H1 : Heap) (locs1 : List Loc), k0 S1 → RelL D cy b tx Sc S1 o s H1 → va_S (bA b) s.heap H1 locs1 → W p l e R s m args below meth c H1 locs1 cells slots Q (F0 m (pc + 3) ls (rest))) : W p l e R s m args below meth c H locs cells slots Q (F0 m pc ls st) :=
  va_callv (va_runV (As := As) (rest := rest) C0 hM cw ⟨fun a9 U g mk q => ⟨q.1, RelM.moved (u := U) (U := U.calling g mk a9) (Vm.Alike.refl U.vm) q.2.1, TxR.same (u := U) (U := U.calling g mk a9) rfl q.2.2⟩, rcM_0 hL.2.1 Nat.zero_lt_one, fun U hU hW => ⟨rfl, hL.2.1.ato hU hW.alike, hT.warm hW⟩⟩ rfl hn hsz hst (lv_room hroom) hdg hf) hS (fun q _ h => gA_bA' h) (fun q h => gA_bA' h) (fun S1 t H1 locs1 ht hvm hw hB hz1 hk1 hS1 => kk S1 H1 locs1 hw (hL.keepM (RelM.bak ht hB hvm.symm) hz1 hk1) hS1)
theorem qLX (C0 : CallFix p m c cc nL s args Ts own) {y : MethodName} {ws : List Cond} {rm : Room} {bytes : ByteArray} {maxL index n mc ms : Nat} {ret : Option FieldType} {As : List Value} {k0 : Int32 → sSt → Prop} {kx0 : String → sSt → Prop} (hM : vx_Met l y ws rm (va_Pc (.ref (b + adC 0 0) :: As) (fun U => RelC D cy b (b + 722) tx Sc U U.heap ∧ TxR tx U)) (PiC D cy b (b + 722) tx k0) (XeC D cy b (b + 722) tx kx0) mc ms (gA b 709 (b + 722))) (cw : CallW R s args own RX11 index y bytes maxL ret ws rm mc ms n) (hL : RelL D cy b tx Sc Sm o s H) (hT : TxR tx s) (hS : va_S (bA b) s.heap H locs) (hn : As.length = n) (hsz : ls.size = nL) {st : List Value} (hst : st = As.reverse ++ .ref (b + adC 0 0) :: rest) (hroom : (rest.map fun v => v.category).sum ≤ 8) (hdg : decode cc pc = .ok (.invokevirtual index, 3)) (hf : cells + mc ≤ R.cells ∧ slots + ms ≤ R.slots)
    (kx : ∀ (E : String) (ce : Cell) (q9 : Addr) (S1 : sSt) (H1 : Heap) (locs1 : List Loc), kx0 E S1 → RelL D cy b tx S1 Sm o s H1 → va_S (bA b) s.heap H1 locs1 → H1[q9]? = some ce → ce.vm = .none → s.vm.findClass E = some ce.cls → vx_W p l e R s m args below meth c H1 locs1 (cells + mc) (slots + ms) Q (F0 m pc ls rest) q9)
    (kk : ∀ (r : Int32) (S1 : sSt) (H1 : Heap) (locs1 : List Loc), k0 r S1 → RelL D cy b tx S1 Sm o s H1 → va_S (bA b) s.heap H1 locs1 → W p l e R s m args below meth c H1 locs1 (cells + mc) (slots + ms) Q (F0 m (pc + 3) ls (.int r :: rest))) : W p l e R s m args below meth c H locs cells slots Q (F0 m pc ls st) :=
  vx_calli (vx_runV (As := As) (rest := rest) C0 hM cw ⟨fun a9 U g mk q => ⟨q.1, RelC.moved (u := U) (U := U.calling g mk a9) (Vm.Alike.refl U.vm) q.2.1, TxR.same (u := U) (U := U.calling g mk a9) rfl q.2.2⟩, rcC_0 hL.1 Nat.zero_lt_one, fun U hU hW => ⟨rfl, hL.1.ato hU hW.alike, hT.warm hW⟩⟩ rfl hn hsz hst (lv_room hroom) hdg hf) hS (fun q _ h => gA_bA' h) (fun q h => gA_bA' h) (fun q _ h => gA_bA' h)
    (fun E ce q9 u t H1 locs1 ht hvm hpx hBX hz hk hS1 hce hcv hcl => kx E ce q9 u H1 locs1 hBX.1 (hL.keepC (RelC.bak ht hBX.2 hvm.symm) hz hk) hS1 hce hcv hcl)
    (fun r S1 t H1 locs1 ht hvm hw hB hz1 hk1 hS1 => kk r S1 H1 locs1 hw (hL.keepC (RelC.bak ht hB hvm.symm) hz1 hk1) hS1)
abbrev PwL (D : va_G) (cy : Nat → ClassId) (b : Nat) (tx : TX) (Sm : sSt) (k : Int32 → sSt → Int64 → Prop) := va_Qi (S := sSt × Int64) (fun r u => k r u.1 u.2) (fun u t => RelL D cy b tx u.1 Sm u.2 t t.heap) (bA b)
theorem qLW (C0 : CallFix p m c cc nL s args Ts own) {y : MethodName} {ws : List Cond} {rm : Room} {bytes : ByteArray} {maxL index n mc ms : Nat} {ret : Option FieldType} {hh : List (Nat × Nat × Nat × Nat)} {As : List Value} {k0 : Int32 → sSt → Int64 → Prop} (hM : Met l y ws rm (va_Pc As (fun U => RelL D cy b tx Sc Sm o U U.heap ∧ TxR tx U ∧ TxN U)) (PwL D cy b tx Sm k0) mc ms (bA b)) (cw : vx_CSW R s args own index y bytes maxL ret hh ws rm mc ms n) (hL : RelL D cy b tx Sc Sm o s H) (hT : TxR tx s) (hN : TxN s) (hS : va_S (bA b) s.heap H locs) (hn : As.length = n) (hsz : ls.size = nL) {st : List Value} (hst : st = As.reverse ++ rest) (hroom : (rest.map fun v => v.category).sum ≤ 8) (hdg : decode cc pc = .ok (.invokestatic index, 3)) (hf : cells + mc ≤ R.cells ∧ slots + ms ≤ R.slots)
    (kk : ∀ (r : Int32) (S1 : sSt) (o1 : Int64) (H1 : Heap) (locs1 : List Loc), k0 r S1 o1 → RelL D cy b tx S1 Sm o1 s H1 → va_S (bA b) s.heap H1 locs1 → W p l e R s m args below meth c H1 locs1 (cells + mc) (slots + ms) Q (F0 m (pc + 3) ls (.int r :: rest))) : W p l e R s m args below meth c H locs cells slots Q (F0 m pc ls st) :=
  va_calli (vx_runSW (As := As) (rest := rest) C0 hM cw ⟨fun a9 U g mk q => ⟨q.1, RelL.moved (u := U) (U := U.calling g mk a9) (Vm.Alike.refl U.vm) q.2.1, TxR.same (u := U) (U := U.calling g mk a9) rfl q.2.2.1, TxN.moved (u := U) (U := U.calling g mk a9) (Vm.Alike.refl U.vm) q.2.2.2⟩, fun U hU hW => ⟨rfl, hL.ato hU hW.alike, hT.warm hW, hN.moved hW.alike⟩⟩ rfl hn hsz hst (lv_room hroom) hdg hf) hS (fun q _ h => h) (fun q h => h) (fun r u t H1 locs1 ht hvm hw hB hz1 hk1 hS1 => kk r u.1 u.2 H1 locs1 hw (RelL.bak ht hB hvm.symm) hS1)
theorem rtL (C0 : CallFix p m c cc nL s args Ts own) (hr : meth.sig.returnType = some .int) (hlk : meth.locks = false) (hR : RelL D cy b tx Sc Sm o s H) (hS : va_S (bA b) s.heap H locs) {k : Int32 → sSt → Int64 → Prop} {v : Int32} (h : k v Sc o) (hdg : decode cc pc = .ok (.ireturn, 1)) : W p l e R s m args below meth c H locs cells slots (MQ below (PwL D cy b tx Sm k) args s cells slots (bA b)) (F0 m pc ls [.int v]) :=
  W.iret C0.1 C0.2.1 hr (fun t ht hW => ⟨⟨v, (Sc, o), rfl, h, hR.ato ht hW.alike⟩, hS.F ht⟩) hS.2.2 hdg hlk
end LR

end LAW
