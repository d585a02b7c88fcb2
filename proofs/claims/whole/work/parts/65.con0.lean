section CON
def upE (F : Nat → va_E) (a : Nat) (e : va_E) : Nat → va_E := fun x => if x = a then e else F x
def cmb (o : Nat) (F G : Nat → va_E) : Nat → va_E := fun x => if x < o then F x else G x
def sameE (D : va_G) (e e' : va_E) : Prop := ∀ (q : Nat) (H : Heap), va_at D vwCl (q, e) H → va_at D vwCl (q, e') H
def fQ (B st k : Nat) : Nat → Option Nat := fun j => if j < k then some (B + st * j) else none
def qRel (D : va_G) (cy : Nat → ClassId) (b n : Nat) (F : Nat → va_E) (U : State) (H : Heap) : Prop := va_P D vwCl (gW b n F) H ∧ va_K D vwCl (tysG cy) U ∧ H.size = b + n
def AO (U : State) : Prop := va_AO RX1 U ∧ va_AO RX4 U ∧ va_AO RX5 U ∧ va_AO RX9 U
theorem AO.moved {u U : State} (hvm : u.vm.Alike U.vm) (h : AO u) : AO U := ⟨h.1.moved hvm, h.2.1.moved hvm, h.2.2.1.moved hvm, h.2.2.2.moved hvm⟩
theorem fQ_0 (B st : Nat) : fQ B st 0 = fun _ => none := funext fun j => by simp [fQ]
theorem fQ_up (B st k : Nat) : va_up (fQ B st k) k (some (B + st * k)) = fQ B st (k + 1) := funext fun j => by
  simp only [va_up, fQ]
  by_cases h : j = k
  · subst h; simp
  · by_cases h2 : j < k
    · rw [if_neg h, if_pos h2, if_pos (by omega)]
    · rw [if_neg h, if_neg h2, if_neg (by omega)]
theorem sameE.rf {D : va_G} {e : va_E} : sameE D e e := fun _ _ h => h
theorem sameE_i {D : va_G} {cA : ClassId} {n : Nat} {f f' : Nat → Int32} (h : ∀ j, j < n → f j = f' j) : sameE D (.inl (cA, n, .inl f)) (.inl (cA, n, .inl f')) := fun q H hh => by
  have hh : H[q]? = some (vp_cell cA (n, .inl f)) := hh
  show H[q]? = some (vp_cell cA (n, .inl f'))
  rw [hh, vp_cell_i, vp_cell_i]
  exact congrArg some (arrV_ext _ _ fun j hj => by rw [h j hj])
theorem sameE_q {D : va_G} {cA : ClassId} {n : Nat} {f f' : Nat → Option Nat} (h : ∀ j, j < n → f j = f' j) : sameE D (.inl (cA, n, .inr (.inr (.inr (.inr f))))) (.inl (cA, n, .inr (.inr (.inr (.inr f'))))) := fun q H hh => by
  have hh : H[q]? = some (vp_cell cA (n, .inr (.inr (.inr (.inr f))))) := hh
  show H[q]? = some (vp_cell cA (n, .inr (.inr (.inr (.inr f')))))
  rw [hh, vp_cell_q, vp_cell_q]
  exact congrArg some (arrV_ext _ _ fun j hj => by rw [h j hj])
theorem cmb_ge {o n : Nat} {F G : Nat → va_E} (h : o ≤ n) : ∀ x, n ≤ x → cmb o F G x = G x := fun x hx => if_neg (by omega)
theorem upE_ge {a n : Nat} {e : va_E} {F G : Nat → va_E} (ha : a < n) (h : ∀ x, n ≤ x → F x = G x) : ∀ x, n ≤ x → upE F a e x = G x := fun x hx => (if_neg (by omega)).trans (h x hx)
theorem cmb_up {n : Nat} {e : va_E} {F G : Nat → va_E} (h : ∀ x, n ≤ x → F x = G x) : cmb n (upE F n e) G = F := funext fun x => by
  unfold cmb upE
  by_cases hx : x < n
  · rw [if_pos hx, if_neg (by omega)]
  · rw [if_neg hx, h x (by omega)]
theorem upE_self {F : Nat → va_E} {a : Nat} {e : va_E} : upE F a e a = e := if_pos rfl
theorem upE_ne {F : Nat → va_E} {a x : Nat} {e : va_E} (h : x ≠ a) : upE F a e x = F x := if_neg h
theorem upE_up {F : Nat → va_E} {a : Nat} {e e' : va_E} : upE (upE F a e) a e' = upE F a e' := funext fun x => by
  unfold upE; split <;> rfl
theorem upE_cm {F : Nat → va_E} {a a' : Nat} {e e' : va_E} (h : a ≠ a') : upE (upE F a e) a' e' = upE (upE F a' e') a e := funext fun x => by
  unfold upE
  by_cases h1 : x = a
  · rw [if_neg (by omega), if_pos h1, if_pos h1]
  · rw [if_neg h1, if_neg h1]
theorem qRel.moved {D : va_G} {cy : Nat → ClassId} {b n : Nat} {F : Nat → va_E} {u U : State} {H : Heap} (hvm : u.vm.Alike U.vm) (h : qRel D cy b n F u H) : qRel D cy b n F U H := ⟨h.1, va_K.moved hvm h.2.1, h.2.2⟩
theorem qRel.at {D : va_G} {cy : Nat → ClassId} {b n : Nat} {F : Nat → va_E} {U : State} {H : Heap} (h : qRel D cy b n F U H) {o : Nat} (ho : o < n) : va_at D vwCl (b + o, F o) H := h.1 o _ (gW_at F ho)
theorem qRel.mk {D : va_G} {cy : Nat → ClassId} {b n : Nat} {F : Nat → va_E} {U : State} {H : Heap} (h : ∀ o, o < n → va_at D vwCl (b + o, F o) H) (hK : va_K D vwCl (tysG cy) U) (hz : H.size = b + n) : qRel D cy b n F U H := ⟨fun k q hk => by
  obtain ⟨h1, rfl⟩ := gW_get hk
  exact h k h1, hK, hz⟩
theorem qRel.same {D : va_G} {cy : Nat → ClassId} {b n : Nat} {F F' : Nat → va_E} {U : State} {H : Heap} (h : qRel D cy b n F U H) (he : ∀ x, x < n → sameE D (F x) (F' x)) : qRel D cy b n F' U H := qRel.mk (fun o ho => he o ho _ _ (h.at ho)) h.2.1 h.2.2
theorem qRel.ext {D : va_G} {cy : Nat → ClassId} {b n : Nat} {F F' : Nat → va_E} {U : State} {H : Heap} (h : qRel D cy b n F U H) (he : ∀ x, x < n → F' x = F x) : qRel D cy b n F' U H := h.same fun x hx => by rw [he x hx]; exact sameE.rf
theorem qRel.push {D : va_G} {cy : Nat → ClassId} {b n : Nat} {F F' : Nat → va_E} {U : State} {H H1 : Heap} (h : qRel D cy b n F U H) (z1 : H1.size = H.size + 1) (o1 : ∀ q : Nat, q < H.size → H1[q]? = H[q]?) (hn : va_at D vwCl (b + n, F' n) H1) (hne : ∀ x, x < n → F' x = F x) : qRel D cy b (n + 1) F' U H1 := by
  refine qRel.mk (fun o ho => ?_) h.2.1 (by rw [z1, h.2.2]; omega)
  by_cases e : o = n
  · subst e; exact hn
  · rw [hne o (by omega)]
    exact (h.at (by omega)).kept (o1 _ (by rw [h.2.2]; show b + o < b + n; omega))
theorem qRel.set {D : va_G} {cy : Nat → ClassId} {b n o : Nat} {F F' : Nat → va_E} {U : State} {H H1 : Heap} (h : qRel D cy b n F U H) (z : H1.size = H.size) (oq : ∀ q : Nat, q ≠ b + o → H1[q]? = H[q]?) (hn : va_at D vwCl (b + o, F' o) H1) (hne : ∀ x, x < n → x ≠ o → F' x = F x) : qRel D cy b n F' U H1 := by
  refine qRel.mk (fun x hx => ?_) h.2.1 (by rw [z, h.2.2])
  by_cases e : x = o
  · subst e; exact hn
  · rw [hne x hx e]
    exact (h.at hx).kept (oq _ (by show b + x ≠ b + o; omega))
theorem qRel.drop {D : va_G} {cy : Nat → ClassId} {b n a : Nat} {e : va_E} {F : Nat → va_E} {U : State} {H : Heap} (h : qRel D cy b n (upE F a e) U H) (he : sameE D e (F a)) : qRel D cy b n F U H := h.same fun x hx => by
  by_cases e1 : x = a
  · subst e1; rw [upE_self]; exact he
  · rw [upE_ne e1]; exact sameE.rf
section QR
variable {p : Program} {l : Launch} {e : Env} {R : Room} {s : State} {m : MethodId} {args : Array Value} {below : List Frame} {meth : Method} {c : Code} {H : Heap} {locs : List Loc} {cells slots : Nat} {Q : State → Prop}
variable {cc : ByteArray} {nL : Nat} {Ts : List Cond} {own : String} {pc : Nat} {ls : Array Slot} {rest : List Value} {D : va_G} {cy : Nat → ClassId} {b n : Nat} {F F' : Nat → va_E} {H0 : Heap}
theorem q_put (C0 : CallFix p m c cc nL s args Ts own) (hR : qRel D cy b n F s H) (hS : va_S (bA b) H0 H locs) {C : String} {T : u_T} {N ci index o j : Nat} (ty0 : Nat → FieldType) (hty : ∀ k, k < N → parseFieldDescriptor (T k).2.2.1 = some (ty0 k)) (hnm : ∀ a, a < N → ∀ b, b < N → a ≠ b → (T a).2.1 ≠ (T b).2.1) (ho : o < n) {fs : List Value} (hF : F o = .inr (ci, fs)) (hc : vwCl[ci]? = some (C, T, N)) (hj : j < N) (hin : ∀ w ∈ u_ws C T N, w ∈ Ts) (hlink : Cond.fieldLink own index (T j).1 (T j).2.1 (T j).2.2.1 ∈ Ts) (hfin : (T j).2.2.2 = false) {ty : FieldType} {v : Value} (hd : parseFieldDescriptor (T j).2.2.1 = some ty) (hn : narrow ty v = v) (hfit : fits ty v = true) (hl : j < fs.length)
    (he : F' o = .inr (ci, fs.set j v)) (hne : ∀ x, x < n → x ≠ o → F' x = F x) (hdg : decode cc pc = .ok (.putfield index, 3))
    (kk : ∀ (H1 : Heap) (locs1 : List Loc), qRel D cy b n F' s H1 → va_S (bA b) H0 H1 locs1 → W p l e R s m args below meth c H1 locs1 cells slots Q (F0 m (pc + 3) ls rest)) : W p l e R s m args below meth c H locs cells slots Q (F0 m pc ls (v :: .ref (b + o) :: rest)) := by
  have hap := va_apart (own := own) C0.2.2.2.2 hin ty0 hty hnm hR.2.1 hc
  obtain ⟨r, h1, cell, q1, q2, q3, q4⟩ := hR.1 o (b + o, .inr (ci, fs)) (by rw [gW_at F ho, hF])
  have hr : r = (C, T, N) := Option.some.inj (h1.symm.trans hc)
  subst hr
  obtain ⟨hSl, hfc, kC, hkC, hkind⟩ := hR.2.1.1 ci _ hc
  obtain ⟨cf, kf, fi, f, hi, hsl⟩ := hSl j hj
  have hlay := C0.2.2.2.2 _ (hin _ (u_in_lay hj))
  unfold u_lay at hlay
  rw [if_neg (by rw [hfin]; decide)] at hlay
  have hst := (u_facts hfc hkC (u_lays C0.2.2.2.2 hin hj) hi).1
  have h6 := u_store hfc hkC hkind hlay hi hd hn hfit
  refine W.putK C0.1 C0.2.1 (f := f) ⟨C0.2.2.2.1, C0.2.2.2.2 _ hlink, ⟨_, _, _, hi⟩, hst⟩ (by rw [q2]; exact h6) q1 q3 (by rw [hsl]; exact k2_hasslot (q4 j hj)) rfl rfl hdg fun H' e1 e2 e3 => ?_
  rw [hsl] at e1 ⊢
  exact kk H' _ (hR.set e2 e3 (by rw [he]; exact ⟨_, hc, t_OB.to (V := updV (vp_V fs) j v) ⟨_, e1, q2, q3, t_set q4 hap hj v⟩ (fun j _ => vp_updV_set hl v j)⟩) hne) (hS.put e2 e3 (show b ≤ b + o by omega))
theorem q_putF (C0 : CallFix p m c cc nL s args Ts own) (hR : qRel D cy b n F s H) (hS : va_S (bA b) H0 H locs) {C : String} {T : u_T} {N ci index o j : Nat} (ty0 : Nat → FieldType) (hty : ∀ k, k < N → parseFieldDescriptor (T k).2.2.1 = some (ty0 k)) (hnm : ∀ a, a < N → ∀ b, b < N → a ≠ b → (T a).2.1 ≠ (T b).2.1) (ho : o < n) {fs : List Value} (hF : F o = .inr (ci, fs)) (hc : vwCl[ci]? = some (C, T, N)) (hj : j < N) (hin : ∀ w ∈ u_ws C T N, w ∈ Ts) (hlink : Cond.fieldLink own index (T j).1 (T j).2.1 (T j).2.2.1 ∈ Ts) (hfin : (T j).2.2.2 = true) (hin2 : meth.name = "<init>") (hdecl : (T j).1 = own) {ty : FieldType} {v : Value} (hd : parseFieldDescriptor (T j).2.2.1 = some ty) (hn : narrow ty v = v) (hfit : fits ty v = true) (hl : j < fs.length)
    (he : F' o = .inr (ci, fs.set j v)) (hne : ∀ x, x < n → x ≠ o → F' x = F x) (hdg : decode cc pc = .ok (.putfield index, 3))
    (kk : ∀ (H1 : Heap) (locs1 : List Loc), qRel D cy b n F' s H1 → va_S (bA b) H0 H1 locs1 → W p l e R s m args below meth c H1 locs1 cells slots Q (F0 m (pc + 3) ls rest)) : W p l e R s m args below meth c H locs cells slots Q (F0 m pc ls (v :: .ref (b + o) :: rest)) := by
  have hap := va_apart (own := own) C0.2.2.2.2 hin ty0 hty hnm hR.2.1 hc
  obtain ⟨r, h1, cell, q1, q2, q3, q4⟩ := hR.1 o (b + o, .inr (ci, fs)) (by rw [gW_at F ho, hF])
  have hr : r = (C, T, N) := Option.some.inj (h1.symm.trans hc)
  subst hr
  obtain ⟨hSl, hfc, kC, hkC, hkind⟩ := hR.2.1.1 ci _ hc
  obtain ⟨cf, kf, fi, f, hi, hsl⟩ := hSl j hj
  have hlay := C0.2.2.2.2 _ (hin _ (u_in_lay hj))
  unfold u_lay at hlay
  rw [if_pos hfin] at hlay
  have hst := (u_facts hfc hkC (u_lays C0.2.2.2.2 hin hj) hi).1
  have hcf : m.cls = cf := by
    obtain ⟨_, _, c', _, _, _, -, -, hf', -, -, -, hown2, -⟩ := Cond.laysFinal_spec hlay
    have e1 : c' = cf := by have := hi.symm.trans hf'; simp at this; exact this.1.symm
    rw [hdecl] at hown2
    rw [← e1]; exact Option.some.inj (C0.2.2.2.1.symm.trans hown2)
  have h6 := u_fits hfc hkC hkind (Or.inr hlay) hi hd hn hfit
  refine W.putFinK C0.1 C0.2.1 C0.2.2.2.1 (C0.2.2.2.2 _ hlink) hi hst hcf hin2 (by rw [q2]; exact h6) q1 q3 (by rw [hsl]; exact k2_hasslot (q4 j hj)) rfl rfl hdg fun H' e1 e2 e3 => ?_
  rw [hsl] at e1 ⊢
  exact kk H' _ (hR.set e2 e3 (by rw [he]; exact ⟨_, hc, t_OB.to (V := updV (vp_V fs) j v) ⟨_, e1, q2, q3, t_set q4 hap hj v⟩ (fun j _ => vp_updV_set hl v j)⟩) hne) (hS.put e2 e3 (show b ≤ b + o by omega))
theorem q_new (C0 : CallFix p m c cc nL s args Ts own) (hR : qRel D cy b n F s H) (hS : va_S (bA b) H0 H locs) {C : String} {T : u_T} {N ci index : Nat} (hin : ∀ w ∈ u_ws C T N, w ∈ Ts) (ty : Nat → FieldType) (hty : ∀ k, k < N → parseFieldDescriptor (T k).2.2.1 = some (ty k)) (hcl : Cond.classLink own index C ∈ Ts) (hinst : Cond.instantiable C N ∈ Ts) (hini : Cond.initialized C ∈ Ts) (hc : vwCl[ci]? = some (C, T, N)) {fs : List Value} (hfs : ∀ j, j < N → defaultValue (ty j) = vp_V fs j) (hcells : cells + 1 ≤ R.cells) (hslots : slots + N ≤ R.slots) (hdg : decode cc pc = .ok (.new index, 3))
    (kk : ∀ H1 : Heap, qRel D cy b (n + 1) (upE F n (.inr (ci, fs))) s H1 → va_S (bA b) H0 H1 locs → W p l e R s m args below meth c H1 locs (cells + 1) (slots + N) Q (F0 m (pc + 3) ls (.ref (b + n) :: rest))) : W p l e R s m args below meth c H locs cells slots Q (F0 m pc ls rest) := by
  have hKn := hR.2.1.1 ci _ hc
  refine W.newcK C0.1 C0.2.1 C0.2.2.2.1 (C0.2.2.2.2 _ hcl) (C0.2.2.2.2 _ hinst) (C0.2.2.2.2 _ hini) rfl hdg hcells hslots hKn.2.1 hR.2.2 fun H1 kC hkC e1 z1 o1 => ?_
  have z2 : H1.size = H.size + 1 := by rw [z1, hR.2.2]
  have o2 : ∀ q : Nat, q < H.size → H1[q]? = H[q]? := fun q hq => o1 q (by rw [← hR.2.2]; exact hq)
  refine kk H1 (hR.push z2 o2 ?_ (fun x hx => upE_ne (by omega))) ⟨Nat.le_trans hS.1 (by omega), fun x h1 h2 => (o2 x (Nat.lt_of_lt_of_le h1 hS.1)).trans (hS.2.1 x h1 h2), hS.2.2⟩
  rw [upE_self]
  exact ⟨_, hc, (u_born ty C0.2.2.2.2 hin hKn hkC e1 hty).to hfs⟩
theorem q_newa (C0 : CallFix p m c cc nL s args Ts own) (hR : qRel D cy b n F s H) (hS : va_S (bA b) H0 H locs) {atype : ArrayType} {ty : FieldType} (hty : newarray.typeOf atype = ty) (harr : Cond.arrayClass (newarray.typeOf atype) ∈ Ts) {cA : ClassId} {t0 : Nat} (ht : (tysG cy)[t0]? = some (cA, ty)) {n' : Int32} {N' : Nat} {a0 : vp_A} (ha : vp_cell cA a0 = arrV cA N' (fun _ => defaultValue ty)) (hn : ¬ n' < 0) (hN : n'.toNatClampNeg = N') (hbytes : N' * componentBytes ty ≤ 536870912) (hF : sameE D (.inl (cA, a0)) (F' n)) (hne : ∀ x, x < n → F' x = F x) (hcells : cells + 1 ≤ R.cells) (hslots : slots + N' ≤ R.slots) (hdg : decode cc pc = .ok (.newarray atype, 2))
    (kk : ∀ H1 : Heap, qRel D cy b (n + 1) F' s H1 → va_S (bA b) H0 H1 locs → W p l e R s m args below meth c H1 locs (cells + 1) (slots + N') Q (F0 m (pc + 2) ls (.ref (b + n) :: rest))) : W p l e R s m args below meth c H locs cells slots Q (F0 m pc ls (.int n' :: rest)) := by
  subst hty
  refine va_newaK C0.1 C0.2.1 (C0.2.2.2.2 _ harr) rfl hdg rfl hn hN hbytes hcells hslots hR.2.2 fun H1 cB e1 z1 o1 hAr hNm => ?_
  have hRA := (hR.2.1.2 t0 _ ht).2
  have hcB : cB = cA := by
    have h2 : s.vm.findClass ("[" ++ (newarray.typeOf atype).toString) = some cA := by cases atype <;> exact hRA
    exact Option.some.inj (hNm.symm.trans h2)
  subst hcB
  have z2 : H1.size = H.size + 1 := by rw [z1, hR.2.2]
  have o2 : ∀ q : Nat, q < H.size → H1[q]? = H[q]? := fun q hq => o1 q (by rw [← hR.2.2]; exact hq)
  refine kk H1 (hR.push z2 o2 (hF _ _ ?_) hne) ⟨Nat.le_trans hS.1 (by omega), fun x h1 h2 => (o2 x (Nat.lt_of_lt_of_le h1 hS.1)).trans (hS.2.1 x h1 h2), hS.2.2⟩
  show H1[b + n]? = some (vp_cell _ _)
  rw [ha]
  exact e1
theorem q_anew (C0 : CallFix p m c cc nL s args Ts own) (hR : qRel D cy b n F s H) (hS : va_S (bA b) H0 H locs) {C : String} {index : Nat} (hcl : Cond.classLink own index C ∈ Ts) (hover : va_AO C s) {cA : ClassId} {t0 : Nat} (ht : (tysG cy)[t0]? = some (cA, .object C)) {n' : Int32} {N' : Nat} (hn : ¬ n' < 0) (hN : n'.toNatClampNeg = N') (hbytes : N' * 4 ≤ 536870912) (hF : sameE D (.inl (cA, N', .inr (.inr (.inr (.inr (fun _ => none)))))) (F' n)) (hne : ∀ x, x < n → F' x = F x) (hcells : cells + 1 ≤ R.cells) (hslots : slots + N' ≤ R.slots) (hdg : decode cc pc = .ok (.anewarray index, 3))
    (kk : ∀ H1 : Heap, qRel D cy b (n + 1) F' s H1 → va_S (bA b) H0 H1 locs → W p l e R s m args below meth c H1 locs (cells + 1) (slots + N') Q (F0 m (pc + 3) ls (.ref (b + n) :: rest))) : W p l e R s m args below meth c H locs cells slots Q (F0 m pc ls (.int n' :: rest)) := by
  subst hN
  refine W.anew C0.1 C0.2.1 C0.2.2.2.1 (C0.2.2.2.2 _ hcl) (va_AO.use hover) rfl hdg rfl hn hbytes hcells hslots fun cB kA comp f1 f2 f3 f4 => ?_
  obtain ⟨kA2, comp2, -, -, -, k5⟩ := (hR.2.1.2 t0 _ ht).2
  have hcB : cB = cA := Option.some.inj (f1.symm.trans k5)
  subst hcB
  generalize hH1 : H.push ({ cls := cB, slots := Array.replicate n'.toNatClampNeg .null, vm := .none } : Cell) = H1
  have z2 : H1.size = H.size + 1 := by rw [← hH1, Array.size_push]
  have e1 : H1[H.size]? = some (arrV cB n'.toNatClampNeg (fun _ => .null)) := by rw [← hH1, Array.getElem?_push_size, ← arrV_new]
  have o2 : ∀ q : Nat, q < H.size → H1[q]? = H[q]? := fun q hq => by rw [← hH1, Array.getElem?_push, if_neg (Nat.ne_of_lt hq)]
  rw [hR.2.2] at e1 ⊢
  refine kk H1 (hR.push z2 o2 (hF _ _ ?_) hne) ⟨Nat.le_trans hS.1 (by omega), fun x h1 h2 => (o2 x (Nat.lt_of_lt_of_le h1 hS.1)).trans (hS.2.1 x h1 h2), hS.2.2⟩
  show H1[b + n]? = some (vp_cell _ _)
  rw [vp_cell_q]
  exact e1
theorem q_iast (C0 : CallFix p m c cc nL s args Ts own) (hR : qRel D cy b n F s H) (hS : va_S (bA b) H0 H locs) {o j N t0 : Nat} (ho : o < n) {cA : ClassId} {f : Nat → Int32} (hF : F o = .inl (cA, N, .inl f)) (ht : (tysG cy)[t0]? = some (cA, .int)) {i x : Int32} (hi : i = nI j) (hj : j < N) (hN : N < 2 ^ 31) (he : F' o = .inl (cA, N, .inl (va_up f j x))) (hne : ∀ x, x < n → x ≠ o → F' x = F x) (hdg : decode cc pc = .ok (.iastore, 1))
    (kk : ∀ (H1 : Heap) (locs1 : List Loc), qRel D cy b n F' s H1 → va_S (bA b) H0 H1 locs1 → W p l e R s m args below meth c H1 locs1 cells slots Q (F0 m (pc + 1) ls rest)) : W p l e R s m args below meth c H locs cells slots Q (F0 m pc ls (.int x :: .int i :: .ref (b + o) :: rest)) := by
  subst hi
  have ha : va_at D vwCl (b + o, .inl (cA, N, .inl f)) H := by have h := hR.at ho; rw [hF] at h; exact h
  refine W.iast C0.1 C0.2.1 ha ((hR.2.1.2 t0 _ ht).1 N (fun j => .int (f j))) (fun q => by cases q) (show ¬ (nI j < 0 ∨ (arrV cA N (fun j => .int (f j))).slots.size ≤ (nI j).toNatClampNeg) by rw [arrV_size]; exact vp_in_nI hj hN) rfl rfl hdg fun H1 e z oq => ?_
  refine kk H1 _ (hR.set z oq ?_ hne) (hS.put z oq (show b ≤ b + o by omega))
  rw [he]
  show H1[b + o]? = some (vp_cell _ _)
  rw [e, nI_clamp (by omega)]
  rw [vp_cell_i, vp_cell_i, arrV_store]
  congr 2
  funext q
  by_cases hq : q = j
  · subst hq; simp [updV, va_up]
  · simp [updV, va_up, hq]
theorem q_aast (C0 : CallFix p m c cc nL s args Ts own) (hR : qRel D cy b n F s H) (hS : va_S (bA b) H0 H locs) {o j N t0 o2 ci : Nat} (ho : o < n) (ho2 : o2 < n) {cA : ClassId} {r : vw_C} {f : Nat → Option Nat} {vs : List Value} (hF : F o = .inl (cA, N, .inr (.inr (.inr (.inr f))))) (ht : (tysG cy)[t0]? = some (cA, .object r.1)) (hv : F o2 = .inr (ci, vs) ∨ sameE D (F o2) (.inr (ci, vs))) (hc : vwCl[ci]? = some r) {i : Int32} (hi : i = nI j) (hj : j < N) (hN : N < 2 ^ 31) (he : F' o = .inl (cA, N, .inr (.inr (.inr (.inr (va_up f j (some (b + o2)))))))) (hne : ∀ x, x < n → x ≠ o → F' x = F x) (hdg : decode cc pc = .ok (.aastore, 1))
    (kk : ∀ (H1 : Heap) (locs1 : List Loc), qRel D cy b n F' s H1 → va_S (bA b) H0 H1 locs1 → W p l e R s m args below meth c H1 locs1 cells slots Q (F0 m (pc + 1) ls rest)) : W p l e R s m args below meth c H locs cells slots Q (F0 m pc ls (.ref (b + o2) :: .int i :: .ref (b + o) :: rest)) := by
  subst hi
  have ha : va_at D vwCl (b + o, .inl (cA, N, .inr (.inr (.inr (.inr f))))) H := by have h := hR.at ho; rw [hF] at h; exact h
  have hb2 : va_at D vwCl (b + o2, .inr (ci, vs)) H := by
    have h := hR.at ho2
    rcases hv with hv | hv
    · rw [hv] at h; exact h
    · exact hv _ _ h
  have hin : ¬ (nI j < 0 ∨ N ≤ (nI j).toNatClampNeg) := vp_in_nI hj hN
  have hlt : (nI j).toNatClampNeg < N := Nat.not_le.mp fun q => hin (Or.inr q)
  have h0 : ¬ nI j < 0 := fun q => hin (Or.inl q)
  obtain ⟨r', hr', cellV, g1, g2, g3, -⟩ := hb2
  have hcls := (hR.2.1.1 ci r hc).2
  obtain ⟨kA, comp, k1, k2, k3, -⟩ := (hR.2.1.2 t0 _ ht).2
  have hcomp : comp = D.1 ci := Option.some.inj (k3.symm.trans hcls.1)
  subst hcomp
  obtain ⟨kC, hkC, -⟩ := hcls.2
  refine W.aast C0.1 C0.2.1 ha (fun q h => by cases h) (fun h => by cases h) k1 k2 rfl hkC ⟨h0, show _ < (arrV cA N (fun j => va_rf (f j))).slots.size by rw [arrV_size]; exact hlt⟩ g1 (fun q h => by rw [g3] at h; cases h) (by rw [g2]; exact hkC) (by rw [g2]; exact va_assign hcls) rfl rfl hdg fun H1 e z oq => ?_
  refine kk H1 _ (hR.set z oq ?_ hne) (hS.put z oq (show b ≤ b + o by omega))
  rw [he]
  show H1[b + o]? = some (vp_cell _ _)
  rw [e, nI_clamp (by omega)]
  rw [vp_cell_q, vp_cell_q, arrV_store]
  congr 2
  funext q
  by_cases hq : q = j
  · subst hq; simp [updV, va_up, va_rf]
  · simp [updV, va_up, hq]
theorem q_get (C0 : CallFix p m c cc nL s args Ts own) (hR : qRel D cy b n F s H) {C : String} {T : u_T} {N ci index o j : Nat} (ho : o < n) {fs : List Value} (hF : F o = .inr (ci, fs)) (hc : vwCl[ci]? = some (C, T, N)) (hj : j < N) (hin : ∀ w ∈ u_ws C T N, w ∈ Ts) (hlink : Cond.fieldLink own index (T j).1 (T j).2.1 (T j).2.2.1 ∈ Ts) {v : Value} (hv : fs[j]? = some v) (hdg : decode cc pc = .ok (.getfield index, 3))
    (kk : W p l e R s m args below meth c H locs cells slots Q (F0 m (pc + 3) ls (v :: rest))) : W p l e R s m args below meth c H locs cells slots Q (F0 m pc ls (.ref (b + o) :: rest)) :=
  va_get C0.1 C0.2.1 C0.2.2.2.2 hin C0.2.2.2.1 hR.2.1 hR.1 o ((gW_at F ho).trans (by rw [hF])) hc j hj (C0.2.2.2.2 _ hlink) (fun _ h => h) hv hdg kk
theorem q_alen (C0 : CallFix p m c cc nL s args Ts own) (hR : qRel D cy b n F s H) {o N t0 : Nat} (ho : o < n) {cA : ClassId} {ty : FieldType} {a : (Nat → Int32) ⊕ (Nat → Int64) ⊕ (Nat → UInt32) ⊕ (Nat → UInt64) ⊕ (Nat → Option Nat)} (hF : F o = .inl (cA, N, a)) (ht : (tysG cy)[t0]? = some (cA, ty)) {v : Int32} (hv : Int32.ofNat N = v) (hdg : decode cc pc = .ok (.arraylength, 1))
    (kk : W p l e R s m args below meth c H locs cells slots Q (F0 m (pc + 1) ls (.int v :: rest))) : W p l e R s m args below meth c H locs cells slots Q (F0 m pc ls (.ref (b + o) :: rest)) := by
  subst hv
  exact va_alen C0.1 C0.2.1 hR.2.1 hR.1 o t0 ((gW_at F ho).trans (by rw [hF])) ht rfl hdg kk
theorem q_initN (C0 : CallFix p m c cc nL s args Ts own) {tx : TX} {host : String} {y : MethodName} {ws : List Cond} {rm : Room} {bytes : ByteArray} {maxL index mc ms n2 o : Nat} {F2 : Nat → va_E} (hM : Met l y ws rm (va_Pc [.ref (b + o)] (fun U => qRel D cy b n F U U.heap ∧ AO U ∧ TxR tx U)) (va_Qv (fun _ : Unit => True) (fun _ t => qRel D cy b n2 F2 t t.heap) (bA b)) mc ms (bA b)) (cw : va_CN R s args own index y host bytes maxL none ws rm mc ms 0 ∧ y.name = "<init>" ∧ (Cond.instanceMethod y).before args s = true) (hR : qRel D cy b n F s H) (hA : AO s) (hT : TxR tx s) (hS : va_S (bA b) H0 H locs) (hsz : ls.size = nL) (hroom : (rest.map fun v => v.category).sum ≤ 8) (hdg : decode cc pc = .ok (.invokespecial index, 3)) (hf : cells + mc ≤ R.cells ∧ slots + ms ≤ R.slots)
    (kk : ∀ (H1 : Heap) (locs1 : List Loc), qRel D cy b n2 F2 s H1 → va_S (bA b) H0 H1 locs1 → W p l e R s m args below meth c H1 locs1 (cells + mc) (slots + ms) Q (F0 m (pc + 3) ls rest)) : W p l e R s m args below meth c H locs cells slots Q (F0 m pc ls (.ref (b + o) :: rest)) :=
  va_callv (va_runIN (As := []) (rest := rest) C0 hM cw ⟨fun a9 U g mk q => ⟨q.1, q.2.1.moved (u := U) (U := U.calling g mk a9) (Vm.Alike.refl U.vm), q.2.2.1.moved (u := U) (U := U.calling g mk a9) (Vm.Alike.refl U.vm), TxR.same (u := U) (U := U.calling g mk a9) rfl q.2.2.2⟩, fun U hU hW => ⟨rfl, by rw [hU]; exact hR.moved hW.alike, hA.moved hW.alike, hT.warm hW⟩⟩ rfl rfl hsz rfl (lv_room hroom) hdg hf) hS (fun q _ h => h) (fun q h => h) (fun u t H1 locs1 ht hvm hw hB hz1 hk1 hS1 => kk H1 locs1 (by rw [ht] at hB; exact hB.moved hvm.symm) hS1)
theorem q_init (C0 : CallFix p m c cc nL s args Ts own) {tx : TX} {y : MethodName} {ws : List Cond} {rm : Room} {bytes : ByteArray} {maxL index mc ms n2 o : Nat} {F2 : Nat → va_E} (hM : Met l y ws rm (va_Pc [.ref (b + o)] (fun U => qRel D cy b n F U U.heap ∧ AO U ∧ TxR tx U)) (va_Qv (fun _ : Unit => True) (fun _ t => qRel D cy b n2 F2 t t.heap) (bA b)) mc ms (bA b)) (cw : CallB R s args own index y bytes maxL none ws rm mc ms 0 ∧ y.name = "<init>" ∧ (Cond.instanceMethod y).before args s = true) (hR : qRel D cy b n F s H) (hA : AO s) (hT : TxR tx s) (hS : va_S (bA b) H0 H locs) (hsz : ls.size = nL) (hroom : (rest.map fun v => v.category).sum ≤ 8) (hdg : decode cc pc = .ok (.invokespecial index, 3)) (hf : cells + mc ≤ R.cells ∧ slots + ms ≤ R.slots)
    (kk : ∀ (H1 : Heap) (locs1 : List Loc), qRel D cy b n2 F2 s H1 → va_S (bA b) H0 H1 locs1 → W p l e R s m args below meth c H1 locs1 (cells + mc) (slots + ms) Q (F0 m (pc + 3) ls rest)) : W p l e R s m args below meth c H locs cells slots Q (F0 m pc ls (.ref (b + o) :: rest)) :=
  va_callv (va_runI (As := []) (rest := rest) C0 hM cw ⟨fun a9 U g mk q => ⟨q.1, q.2.1.moved (u := U) (U := U.calling g mk a9) (Vm.Alike.refl U.vm), q.2.2.1.moved (u := U) (U := U.calling g mk a9) (Vm.Alike.refl U.vm), TxR.same (u := U) (U := U.calling g mk a9) rfl q.2.2.2⟩, fun U hU hW => ⟨rfl, by rw [hU]; exact hR.moved hW.alike, hA.moved hW.alike, hT.warm hW⟩⟩ rfl rfl hsz rfl (lv_room hroom) hdg hf) hS (fun q _ h => h) (fun q h => h) (fun u t H1 locs1 ht hvm hw hB hz1 hk1 hS1 => kk H1 locs1 (by rw [ht] at hB; exact hB.moved hvm.symm) hS1)
end QR
end CON
