theorem dJ0_length_8abf5_0 : decode cJ0_length_8abf5 0 = .ok (.aload_n 0, 1) := by decide +kernel
theorem dJ0_length_8abf5_1 : decode cJ0_length_8abf5 1 = .ok (.getfield 9, 3) := by decide +kernel
theorem dJ0_length_8abf5_4 : decode cJ0_length_8abf5 4 = .ok (.arraylength, 1) := by decide +kernel
theorem dJ0_length_8abf5_5 : decode cJ0_length_8abf5 5 = .ok (.aload_n 0, 1) := by decide +kernel
theorem dJ0_length_8abf5_6 : decode cJ0_length_8abf5 6 = .ok (.invokevirtual 335, 3) := by decide +kernel
theorem dJ0_length_8abf5_9 : decode cJ0_length_8abf5 9 = .ok (.ishr, 1) := by decide +kernel
theorem dJ0_length_8abf5_10 : decode cJ0_length_8abf5 10 = .ok (.ireturn, 1) := by decide +kernel
theorem dJ0_charAt_5068e_0 : decode cJ0_charAt_5068e 0 = .ok (.aload_n 0, 1) := by decide +kernel
theorem dJ0_charAt_5068e_1 : decode cJ0_charAt_5068e 1 = .ok (.invokevirtual 492, 3) := by decide +kernel
theorem dJ0_charAt_5068e_4 : decode cJ0_charAt_5068e 4 = .ok (.ifCond .eq 12, 3) := by decide +kernel
theorem dJ0_charAt_5068e_7 : decode cJ0_charAt_5068e 7 = .ok (.aload_n 0, 1) := by decide +kernel
theorem dJ0_charAt_5068e_8 : decode cJ0_charAt_5068e 8 = .ok (.getfield 9, 3) := by decide +kernel
theorem dJ0_charAt_5068e_11 : decode cJ0_charAt_5068e 11 = .ok (.iload_n 1, 1) := by decide +kernel
theorem dJ0_charAt_5068e_12 : decode cJ0_charAt_5068e 12 = .ok (.invokestatic 495, 3) := by decide +kernel
theorem dJ0_charAt_5068e_15 : decode cJ0_charAt_5068e 15 = .ok (.ireturn, 1) := by decide +kernel
theorem dJ0_charAt_5068e_16 : decode cJ0_charAt_5068e 16 = .ok (.aload_n 0, 1) := by decide +kernel
theorem dJ0_charAt_5068e_17 : decode cJ0_charAt_5068e 17 = .ok (.getfield 9, 3) := by decide +kernel
theorem dJ0_charAt_5068e_20 : decode cJ0_charAt_5068e 20 = .ok (.iload_n 1, 1) := by decide +kernel
theorem dJ0_charAt_5068e_21 : decode cJ0_charAt_5068e 21 = .ok (.invokestatic 498, 3) := by decide +kernel
theorem dJ0_charAt_5068e_24 : decode cJ0_charAt_5068e 24 = .ok (.ireturn, 1) := by decide +kernel
theorem dJ0_coder_7d493_0 : decode cJ0_coder_7d493 0 = .ok (.getstatic 38, 3) := by decide +kernel
theorem dJ0_coder_7d493_3 : decode cJ0_coder_7d493 3 = .ok (.ifCond .eq 10, 3) := by decide +kernel
theorem dJ0_coder_7d493_6 : decode cJ0_coder_7d493 6 = .ok (.aload_n 0, 1) := by decide +kernel
theorem dJ0_coder_7d493_7 : decode cJ0_coder_7d493 7 = .ok (.getfield 15, 3) := by decide +kernel
theorem dJ0_coder_7d493_10 : decode cJ0_coder_7d493 10 = .ok (.goto 4, 3) := by decide +kernel
theorem dJ0_coder_7d493_13 : decode cJ0_coder_7d493 13 = .ok (.iconst 1, 1) := by decide +kernel
theorem dJ0_coder_7d493_14 : decode cJ0_coder_7d493 14 = .ok (.ireturn, 1) := by decide +kernel
theorem dJ0_isLatin1_aae02_0 : decode cJ0_isLatin1_aae02 0 = .ok (.getstatic 38, 3) := by decide +kernel
theorem dJ0_isLatin1_aae02_3 : decode cJ0_isLatin1_aae02 3 = .ok (.ifCond .eq 14, 3) := by decide +kernel
theorem dJ0_isLatin1_aae02_6 : decode cJ0_isLatin1_aae02 6 = .ok (.aload_n 0, 1) := by decide +kernel
theorem dJ0_isLatin1_aae02_7 : decode cJ0_isLatin1_aae02 7 = .ok (.getfield 15, 3) := by decide +kernel
theorem dJ0_isLatin1_aae02_10 : decode cJ0_isLatin1_aae02 10 = .ok (.ifCond .ne 7, 3) := by decide +kernel
theorem dJ0_isLatin1_aae02_13 : decode cJ0_isLatin1_aae02 13 = .ok (.iconst 1, 1) := by decide +kernel
theorem dJ0_isLatin1_aae02_14 : decode cJ0_isLatin1_aae02 14 = .ok (.goto 4, 3) := by decide +kernel
theorem dJ0_isLatin1_aae02_17 : decode cJ0_isLatin1_aae02 17 = .ok (.iconst 0, 1) := by decide +kernel
theorem dJ0_isLatin1_aae02_18 : decode cJ0_isLatin1_aae02 18 = .ok (.ireturn, 1) := by decide +kernel
theorem dJ0_checkIndex_df160_0 : decode cJ0_checkIndex_df160 0 = .ok (.iload_n 0, 1) := by decide +kernel
theorem dJ0_checkIndex_df160_1 : decode cJ0_checkIndex_df160 1 = .ok (.iload_n 1, 1) := by decide +kernel
theorem dJ0_checkIndex_df160_2 : decode cJ0_checkIndex_df160 2 = .ok (.getstatic 1053, 3) := by decide +kernel
theorem dJ0_checkIndex_df160_5 : decode cJ0_checkIndex_df160 5 = .ok (.invokestatic 1059, 3) := by decide +kernel
theorem dJ0_checkIndex_df160_8 : decode cJ0_checkIndex_df160 8 = .ok (.pop, 1) := by decide +kernel
theorem dJ0_checkIndex_df160_9 : decode cJ0_checkIndex_df160 9 = .ok (.return_, 1) := by decide +kernel
theorem dJ1_charAt_3b067_0 : decode cJ1_charAt_3b067 0 = .ok (.iload_n 1, 1) := by decide +kernel
theorem dJ1_charAt_3b067_1 : decode cJ1_charAt_3b067 1 = .ok (.aload_n 0, 1) := by decide +kernel
theorem dJ1_charAt_3b067_2 : decode cJ1_charAt_3b067 2 = .ok (.arraylength, 1) := by decide +kernel
theorem dJ1_charAt_3b067_3 : decode cJ1_charAt_3b067 3 = .ok (.invokestatic 9, 3) := by decide +kernel
theorem dJ1_charAt_3b067_6 : decode cJ1_charAt_3b067 6 = .ok (.aload_n 0, 1) := by decide +kernel
theorem dJ1_charAt_3b067_7 : decode cJ1_charAt_3b067 7 = .ok (.iload_n 1, 1) := by decide +kernel
theorem dJ1_charAt_3b067_8 : decode cJ1_charAt_3b067 8 = .ok (.baload, 1) := by decide +kernel
theorem dJ1_charAt_3b067_9 : decode cJ1_charAt_3b067 9 = .ok (.sipush 255, 3) := by decide +kernel
theorem dJ1_charAt_3b067_12 : decode cJ1_charAt_3b067 12 = .ok (.iand, 1) := by decide +kernel
theorem dJ1_charAt_3b067_13 : decode cJ1_charAt_3b067 13 = .ok (.i2c, 1) := by decide +kernel
theorem dJ1_charAt_3b067_14 : decode cJ1_charAt_3b067 14 = .ok (.ireturn, 1) := by decide +kernel
theorem dJ3_checkIndex_8e157_0 : decode cJ3_checkIndex_8e157 0 = .ok (.iload_n 0, 1) := by decide +kernel
theorem dJ3_checkIndex_8e157_1 : decode cJ3_checkIndex_8e157 1 = .ok (.ifCond .lt 8, 3) := by decide +kernel
theorem dJ3_checkIndex_8e157_4 : decode cJ3_checkIndex_8e157 4 = .ok (.iload_n 0, 1) := by decide +kernel
theorem dJ3_checkIndex_8e157_5 : decode cJ3_checkIndex_8e157 5 = .ok (.iload_n 1, 1) := by decide +kernel
theorem dJ3_checkIndex_8e157_6 : decode cJ3_checkIndex_8e157 6 = .ok (.if_icmp .lt 10, 3) := by decide +kernel
theorem dJ3_checkIndex_8e157_9 : decode cJ3_checkIndex_8e157 9 = .ok (.aload_n 2, 1) := by decide +kernel
theorem dJ3_checkIndex_8e157_10 : decode cJ3_checkIndex_8e157 10 = .ok (.iload_n 0, 1) := by decide +kernel
theorem dJ3_checkIndex_8e157_11 : decode cJ3_checkIndex_8e157 11 = .ok (.iload_n 1, 1) := by decide +kernel
theorem dJ3_checkIndex_8e157_12 : decode cJ3_checkIndex_8e157 12 = .ok (.invokestatic 95, 3) := by decide +kernel
theorem dJ3_checkIndex_8e157_15 : decode cJ3_checkIndex_8e157 15 = .ok (.athrow, 1) := by decide +kernel
theorem dJ3_checkIndex_8e157_16 : decode cJ3_checkIndex_8e157 16 = .ok (.iload_n 0, 1) := by decide +kernel
theorem dJ3_checkIndex_8e157_17 : decode cJ3_checkIndex_8e157 17 = .ok (.ireturn, 1) := by decide +kernel
theorem dJ9_floorMod_7cf53_0 : decode cJ9_floorMod_7cf53 0 = .ok (.iload_n 0, 1) := by decide +kernel
theorem dJ9_floorMod_7cf53_1 : decode cJ9_floorMod_7cf53 1 = .ok (.iload_n 1, 1) := by decide +kernel
theorem dJ9_floorMod_7cf53_2 : decode cJ9_floorMod_7cf53 2 = .ok (.irem, 1) := by decide +kernel
theorem dJ9_floorMod_7cf53_3 : decode cJ9_floorMod_7cf53 3 = .ok (.istore_n 2, 1) := by decide +kernel
theorem dJ9_floorMod_7cf53_4 : decode cJ9_floorMod_7cf53 4 = .ok (.iload_n 0, 1) := by decide +kernel
theorem dJ9_floorMod_7cf53_5 : decode cJ9_floorMod_7cf53 5 = .ok (.iload_n 1, 1) := by decide +kernel
theorem dJ9_floorMod_7cf53_6 : decode cJ9_floorMod_7cf53 6 = .ok (.ixor, 1) := by decide +kernel
theorem dJ9_floorMod_7cf53_7 : decode cJ9_floorMod_7cf53 7 = .ok (.ifCond .ge 11, 3) := by decide +kernel
theorem dJ9_floorMod_7cf53_10 : decode cJ9_floorMod_7cf53 10 = .ok (.iload_n 2, 1) := by decide +kernel
theorem dJ9_floorMod_7cf53_11 : decode cJ9_floorMod_7cf53 11 = .ok (.ifCond .eq 7, 3) := by decide +kernel
theorem dJ9_floorMod_7cf53_14 : decode cJ9_floorMod_7cf53 14 = .ok (.iload_n 2, 1) := by decide +kernel
theorem dJ9_floorMod_7cf53_15 : decode cJ9_floorMod_7cf53 15 = .ok (.iload_n 1, 1) := by decide +kernel
theorem dJ9_floorMod_7cf53_16 : decode cJ9_floorMod_7cf53 16 = .ok (.iadd, 1) := by decide +kernel
theorem dJ9_floorMod_7cf53_17 : decode cJ9_floorMod_7cf53 17 = .ok (.ireturn, 1) := by decide +kernel
theorem dJ9_floorMod_7cf53_18 : decode cJ9_floorMod_7cf53 18 = .ok (.iload_n 2, 1) := by decide +kernel
theorem dJ9_floorMod_7cf53_19 : decode cJ9_floorMod_7cf53 19 = .ok (.ireturn, 1) := by decide +kernel

theorem mJ_3_153 : Cond.fieldLink RJ0 38 "java/lang/String" "COMPACT_STRINGS" "Z" ∈ TB := tbT_3 _ (List.mem_of_getElem? (i := 153) rfl) rfl
theorem mJ_10_2 : Cond.fieldLink RJ0 15 "java/lang/String" "coder" "B" ∈ TB := tbT_10 _ (List.mem_of_getElem? (i := 2) rfl) rfl
theorem mJ_10_1 : Cond.fieldLink RJ0 9 "java/lang/String" "value" "[B" ∈ TB := tbT_10 _ (List.mem_of_getElem? (i := 1) rfl) rfl
theorem mJ_3_173 : Cond.fieldLink RJ0 1053 "jdk/internal/util/Preconditions" "SIOOBE_FORMATTER" "Ljava/util/function/BiFunction;" ∈ TB := tbT_3 _ (List.mem_of_getElem? (i := 173) rfl) rfl
theorem mJ_3_149 : Cond.methodLink RJ0 335 yJ0_coder_7d493 ∈ TB := tbT_3 _ (List.mem_of_getElem? (i := 149) rfl) rfl
theorem mJ_3_150 : Cond.instanceMethod yJ0_coder_7d493 ∈ TB := tbT_3 _ (List.mem_of_getElem? (i := 150) rfl) rfl
theorem mJ_3_151 : Cond.selects RJ0 yJ0_coder_7d493 yJ0_coder_7d493 ∈ TB := tbT_3 _ (List.mem_of_getElem? (i := 151) rfl) rfl
theorem mJ_1_14 : Cond.initialized RJ0 ∈ TB := tbT_1 _ (List.mem_of_getElem? (i := 14) rfl) rfl
theorem mJ_3_152 : Cond.code yJ0_coder_7d493 cJ0_coder_7d493 1 (some .byte) ∈ TB := tbT_3 _ (List.mem_of_getElem? (i := 152) rfl) rfl
theorem mJ_3_175 : Cond.methodLink RJ0 1059 yJ3_checkIndex_8e157 ∈ TB := tbT_3 _ (List.mem_of_getElem? (i := 175) rfl) rfl
theorem mJ_3_176 : Cond.static yJ3_checkIndex_8e157 ∈ TB := tbT_3 _ (List.mem_of_getElem? (i := 176) rfl) rfl
theorem mJ_1_16 : Cond.initialized RJ3 ∈ TB := tbT_1 _ (List.mem_of_getElem? (i := 16) rfl) rfl
theorem mJ_3_177 : Cond.code yJ3_checkIndex_8e157 cJ3_checkIndex_8e157 3 (some .int) ∈ TB := tbT_3 _ (List.mem_of_getElem? (i := 177) rfl) rfl
theorem mJ_3_170 : Cond.methodLink RJ1 9 yJ0_checkIndex_df160 ∈ TB := tbT_3 _ (List.mem_of_getElem? (i := 170) rfl) rfl
theorem mJ_3_171 : Cond.static yJ0_checkIndex_df160 ∈ TB := tbT_3 _ (List.mem_of_getElem? (i := 171) rfl) rfl
theorem mJ_3_172 : Cond.code yJ0_checkIndex_df160 cJ0_checkIndex_df160 2 none ∈ TB := tbT_3 _ (List.mem_of_getElem? (i := 172) rfl) rfl
theorem mJ_3_163 : Cond.methodLink RJ0 492 yJ0_isLatin1_aae02 ∈ TB := tbT_3 _ (List.mem_of_getElem? (i := 163) rfl) rfl
theorem mJ_3_164 : Cond.instanceMethod yJ0_isLatin1_aae02 ∈ TB := tbT_3 _ (List.mem_of_getElem? (i := 164) rfl) rfl
theorem mJ_3_165 : Cond.selects RJ0 yJ0_isLatin1_aae02 yJ0_isLatin1_aae02 ∈ TB := tbT_3 _ (List.mem_of_getElem? (i := 165) rfl) rfl
theorem mJ_3_166 : Cond.code yJ0_isLatin1_aae02 cJ0_isLatin1_aae02 1 (some .boolean) ∈ TB := tbT_3 _ (List.mem_of_getElem? (i := 166) rfl) rfl
theorem mJ_3_167 : Cond.methodLink RJ0 495 yJ1_charAt_3b067 ∈ TB := tbT_3 _ (List.mem_of_getElem? (i := 167) rfl) rfl
theorem mJ_3_168 : Cond.static yJ1_charAt_3b067 ∈ TB := tbT_3 _ (List.mem_of_getElem? (i := 168) rfl) rfl
theorem mJ_1_15 : Cond.initialized RJ1 ∈ TB := tbT_1 _ (List.mem_of_getElem? (i := 15) rfl) rfl
theorem mJ_3_169 : Cond.code yJ1_charAt_3b067 cJ1_charAt_3b067 2 (some .char) ∈ TB := tbT_3 _ (List.mem_of_getElem? (i := 169) rfl) rfl
section TXT
def TxU (tx : TX) (U : State) : Prop := TxW tx U U.heap
abbrev Pj (r : Int32) := va_Qi (S := Unit) (fun r' _ => r' = r) (fun _ _ => True) (fun _ : Nat => False)
abbrev Pjv := va_Qv (S := Unit) (fun _ => True) (fun _ _ => True) (fun _ : Nat => False)
theorem va_S.no {A : Nat → Prop} {H0 H : Heap} {locs : List Loc} (h : va_S (fun _ : Nat => False) H0 H locs) : va_S A H0 H locs := ⟨h.1, fun q h1 _ => h.2.1 q h1 (fun h => h), fun q hq => (h.2.2 q hq).elim⟩
theorem TxU.same {tx : TX} {u U : State} (hv : u.vm.Alike U.vm) (hh : U.heap = u.heap) (h : TxU tx u) : TxU tx U := by
  unfold TxU at h ⊢
  rw [hh]
  exact h.moved hv
/-- a text's sign, as charAt answers it -/
def chTx (i j : Nat) : Int32 := (bytTx.getD i []).getD j 0
theorem ch_ok : ∀ i, i < 29 → lenTx.getD i 0 < 2 ^ 31 ∧ ∀ j, j < lenTx.getD i 0 → narrow .char (.int (((bytTx.getD i []).getD j 0 &&& 255).toUInt32 % 65536).toInt32) = .int (chTx i j) ∧ (((bytTx.getD i []).getD j 0 &&& 255).toUInt32 % 65536).toInt32 = chTx i j := by decide +kernel
section JW
variable {p : Program} {l : Launch} {e : Env} {R : Room} {s : State} {m : MethodId} {args : Array Value} {below : List Frame} {meth : Method} {c : Code} {H : Heap} {locs : List Loc} {cells slots : Nat} {Q : State → Prop}
variable {cc : ByteArray} {nL : Nat} {Ts : List Cond} {own : String} {pc : Nat} {ls : Array Slot} {rest : List Value} {tx : TX} {H0 : Heap} {A : Nat → Prop}
theorem q_Jv (C0 : CallFix p m c cc nL s args Ts own) {y : MethodName} {ws : List Cond} {rm : Room} {bytes : ByteArray} {maxL index n : Nat} {ret : Option FieldType} {C : String} {a : Nat} {As : List Value} {r0 : Int32} (hM : Met l y ws rm (va_Pc (.ref a :: As) (TxU tx)) (Pj r0) 0 0 (fun _ => False)) (cw : CallW R s args own C index y bytes maxL ret ws rm 0 0 n) (hrecv : ∃ cell : Cell, H[a]? = some cell ∧ cell.vm.isStatics = false ∧ s.vm.findClass C = some cell.cls) (hX : TxW tx s H) (hS : va_S A H0 H locs) (hn : As.length = n) (hsz : ls.size = nL) {st : List Value} (hst : st = As.reverse ++ .ref a :: rest) (hroom : (rest.map fun v => v.category).sum ≤ 8) (hdg : decode cc pc = .ok (.invokevirtual index, 3)) (hf : cells + 0 ≤ R.cells ∧ slots + 0 ≤ R.slots)
    (kk : ∀ (H1 : Heap) (locs1 : List Loc), H.size ≤ H1.size → (∀ q : Nat, q < H.size → H1[q]? = H[q]?) → va_S A H0 H1 locs1 → W p l e R s m args below meth c H1 locs1 cells slots Q (F0 m (pc + 3) ls (.int r0 :: rest))) : W p l e R s m args below meth c H locs cells slots Q (F0 m pc ls st) :=
  va_calli (va_runV (As := As) (rest := rest) C0 hM cw ⟨fun a9 U g mk q => ⟨q.1, TxU.same (u := U) (U := U.calling g mk a9) (Vm.Alike.refl U.vm) rfl q.2⟩, hrecv, fun U hU hW => ⟨rfl, by show TxW tx U U.heap; rw [hU]; exact hX.moved hW.alike⟩⟩ rfl hn hsz hst (lv_room hroom) hdg hf) hS (fun q _ h => h.elim) (fun q h => h.elim) (fun r u t H1 locs1 ht hvm hw hB hz1 hk1 hS1 => by
    have hw : r = r0 := hw
    subst hw
    exact kk H1 locs1 hz1 (fun q hq => hk1 q hq (fun h => h)) hS1)
theorem q_Js (C0 : CallFix p m c cc nL s args Ts own) {y : MethodName} {ws : List Cond} {rm : Room} {bytes : ByteArray} {maxL index n : Nat} {ret : Option FieldType} {As : List Value} {r0 : Int32} (hM : Met l y ws rm (va_Pc As (TxU tx)) (Pj r0) 0 0 (fun _ => False)) (cw : CallB R s args own index y bytes maxL ret ws rm 0 0 n ∧ (Cond.static y).before args s = true) (hX : TxW tx s H) (hS : va_S A H0 H locs) (hn : As.length = n) (hsz : ls.size = nL) {st : List Value} (hst : st = As.reverse ++ rest) (hroom : (rest.map fun v => v.category).sum ≤ 8) (hdg : decode cc pc = .ok (.invokestatic index, 3)) (hf : cells + 0 ≤ R.cells ∧ slots + 0 ≤ R.slots)
    (kk : ∀ (H1 : Heap) (locs1 : List Loc), H.size ≤ H1.size → (∀ q : Nat, q < H.size → H1[q]? = H[q]?) → va_S A H0 H1 locs1 → W p l e R s m args below meth c H1 locs1 cells slots Q (F0 m (pc + 3) ls (.int r0 :: rest))) : W p l e R s m args below meth c H locs cells slots Q (F0 m pc ls st) :=
  va_calli (va_runS (As := As) (rest := rest) C0 hM cw ⟨fun a9 U g mk q => ⟨q.1, TxU.same (u := U) (U := U.calling g mk a9) (Vm.Alike.refl U.vm) rfl q.2⟩, fun U hU hW => ⟨rfl, by show TxW tx U U.heap; rw [hU]; exact hX.moved hW.alike⟩⟩ rfl hn hsz hst (lv_room hroom) hdg hf) hS (fun q _ h => h.elim) (fun q h => h.elim) (fun r u t H1 locs1 ht hvm hw hB hz1 hk1 hS1 => by
    have hw : r = r0 := hw
    subst hw
    exact kk H1 locs1 hz1 (fun q hq => hk1 q hq (fun h => h)) hS1)
theorem q_Jsv (C0 : CallFix p m c cc nL s args Ts own) {y : MethodName} {ws : List Cond} {rm : Room} {bytes : ByteArray} {maxL index n : Nat} {ret : Option FieldType} {As : List Value} (hM : Met l y ws rm (va_Pc As (TxU tx)) Pjv 0 0 (fun _ => False)) (cw : CallB R s args own index y bytes maxL ret ws rm 0 0 n ∧ (Cond.static y).before args s = true) (hX : TxW tx s H) (hS : va_S A H0 H locs) (hn : As.length = n) (hsz : ls.size = nL) {st : List Value} (hst : st = As.reverse ++ rest) (hroom : (rest.map fun v => v.category).sum ≤ 8) (hdg : decode cc pc = .ok (.invokestatic index, 3)) (hf : cells + 0 ≤ R.cells ∧ slots + 0 ≤ R.slots)
    (kk : ∀ (H1 : Heap) (locs1 : List Loc), H.size ≤ H1.size → (∀ q : Nat, q < H.size → H1[q]? = H[q]?) → va_S A H0 H1 locs1 → W p l e R s m args below meth c H1 locs1 cells slots Q (F0 m (pc + 3) ls rest)) : W p l e R s m args below meth c H locs cells slots Q (F0 m pc ls st) :=
  va_callv (va_runS (As := As) (rest := rest) C0 hM cw ⟨fun a9 U g mk q => ⟨q.1, TxU.same (u := U) (U := U.calling g mk a9) (Vm.Alike.refl U.vm) rfl q.2⟩, fun U hU hW => ⟨rfl, by show TxW tx U U.heap; rw [hU]; exact hX.moved hW.alike⟩⟩ rfl hn hsz hst (lv_room hroom) hdg hf) hS (fun q _ h => h.elim) (fun q h => h.elim) (fun u t H1 locs1 ht hvm hw hB hz1 hk1 hS1 => kk H1 locs1 hz1 (fun q hq => hk1 q hq (fun h => h)) hS1)
theorem TxW.stay (h : TxW tx s H) {H1 : Heap} (hq : ∀ q : Nat, q < H.size → H1[q]? = H[q]?) : TxW tx s H1 := h.kept (fun a ha _ => hq a ha)
end JW
set_option maxHeartbeats 4000000 in
set_option maxRecDepth 100000 in
theorem c_J_coder (l : Launch) {tx : TX} {i : Nat} (hi : i < nTx) : Met l yJ0_coder_7d493 (Cond.code yJ0_coder_7d493 cJ0_coder_7d493 1 (some .byte) :: TB) ({ frames := 0, cells := 0, slots := 0, locals := 0 }) (va_Pc [.ref (tx.2.1 i)] (TxU tx)) (Pj 0) 0 0 (fun _ => False) := by
  refine Met.ofW (cc := cJ0_coder_7d493) (maxL := 1) (ret := (some .byte)) (by decide) rfl ?_
  intro p e s m args below meth c s₁ B hml hv
  obtain ⟨rfl, hX⟩ := hv
  have C0 : CallFix p m c cJ0_coder_7d493 1 s _ TB RJ0 := ⟨B.exec, B.bytes, hml, findClass_of_methodNamed B.named, fun w hw => atoms_spec B.pre w (List.mem_cons_of_mem _ hw)⟩
  have hr := B.returns
  have hlk := B.notSynchronized
  have hx := C0.1
  have hb := C0.2.1
  have hX : TxW tx s s.heap := hX
  have hS : va_S (fun _ : Nat => False) s.heap s.heap [] := va_S.rf
  have hl := lv_entry ([.ref (tx.2.1 i)]) (n := 1) (Nat.le_of_ble_eq_true rfl)
  rw [lg_entry_eq]
  generalize (lg_sl ([.ref (tx.2.1 i)]) ++ List.replicate (1 - (lg_sl ([.ref (tx.2.1 i)])).length) Slot.unset).toArray = ls at hl ⊢
  have hl : lv_has ls 1 [(0, .ref (tx.2.1 i))] := hl
  refine va_gets hx hb hX.2.1 hS.no C0.2.2.2.1 (C0.2.2.2.2 _ mJ_3_153) (fun _ h => h) dJ0_coder_7d493_0 ?_
  refine lv_if_eq (tgt := 13) hx hb dJ0_coder_7d493_3 (by decide) (fun h => absurd h (by decide)) (fun _ => ?_)
  refine lv_aload_n hx hb dJ0_coder_7d493_6 rfl (lv_at hl 0 rfl) ?_
  refine vk_getf hx hb (hX.1.1 i hi).2.1 hS.no C0.2.2.2.1 (C0.2.2.2.2 _ mJ_10_2) (fun _ h => h) dJ0_coder_7d493_7 ?_
  refine lv_goto (tgt := 14) hx hb dJ0_coder_7d493_10 (by decide) ?_
  exact W.zret hx hb hr rfl (fun t ht hW => ⟨⟨_, (), rfl, rfl, trivial⟩, hS.F ht⟩) hS.2.2 dJ0_coder_7d493_14
set_option maxHeartbeats 4000000 in
set_option maxRecDepth 100000 in
theorem c_J_latin (l : Launch) {tx : TX} {i : Nat} (hi : i < nTx) : Met l yJ0_isLatin1_aae02 (Cond.code yJ0_isLatin1_aae02 cJ0_isLatin1_aae02 1 (some .boolean) :: TB) ({ frames := 0, cells := 0, slots := 0, locals := 0 }) (va_Pc [.ref (tx.2.1 i)] (TxU tx)) (Pj 1) 0 0 (fun _ => False) := by
  refine Met.ofW (cc := cJ0_isLatin1_aae02) (maxL := 1) (ret := (some .boolean)) (by decide) rfl ?_
  intro p e s m args below meth c s₁ B hml hv
  obtain ⟨rfl, hX⟩ := hv
  have C0 : CallFix p m c cJ0_isLatin1_aae02 1 s _ TB RJ0 := ⟨B.exec, B.bytes, hml, findClass_of_methodNamed B.named, fun w hw => atoms_spec B.pre w (List.mem_cons_of_mem _ hw)⟩
  have hr := B.returns
  have hlk := B.notSynchronized
  have hx := C0.1
  have hb := C0.2.1
  have hX : TxW tx s s.heap := hX
  have hS : va_S (fun _ : Nat => False) s.heap s.heap [] := va_S.rf
  have hl := lv_entry ([.ref (tx.2.1 i)]) (n := 1) (Nat.le_of_ble_eq_true rfl)
  rw [lg_entry_eq]
  generalize (lg_sl ([.ref (tx.2.1 i)]) ++ List.replicate (1 - (lg_sl ([.ref (tx.2.1 i)])).length) Slot.unset).toArray = ls at hl ⊢
  have hl : lv_has ls 1 [(0, .ref (tx.2.1 i))] := hl
  refine va_gets hx hb hX.2.1 hS.no C0.2.2.2.1 (C0.2.2.2.2 _ mJ_3_153) (fun _ h => h) dJ0_isLatin1_aae02_0 ?_
  refine lv_if_eq (tgt := 17) hx hb dJ0_isLatin1_aae02_3 (by decide) (fun h => absurd h (by decide)) (fun _ => ?_)
  refine lv_aload_n hx hb dJ0_isLatin1_aae02_6 rfl (lv_at hl 0 rfl) ?_
  refine vk_getf hx hb (hX.1.1 i hi).2.1 hS.no C0.2.2.2.1 (C0.2.2.2.2 _ mJ_10_2) (fun _ h => h) dJ0_isLatin1_aae02_7 ?_
  refine lv_if_ne (tgt := 17) hx hb dJ0_isLatin1_aae02_10 (by decide) (fun h => absurd rfl h) (fun _ => ?_)
  refine lv_iconst (v := 1) hx hb dJ0_isLatin1_aae02_13 (by decide) ?_
  refine lv_goto (tgt := 18) hx hb dJ0_isLatin1_aae02_14 (by decide) ?_
  exact W.zret hx hb hr rfl (fun t ht hW => ⟨⟨_, (), rfl, rfl, trivial⟩, hS.F ht⟩) hS.2.2 dJ0_isLatin1_aae02_18
set_option maxHeartbeats 4000000 in
set_option maxRecDepth 100000 in
theorem c_J_length (l : Launch) {tx : TX} {i : Nat} (hi : i < nTx) : Met l yJ0_length_8abf5 (Cond.code yJ0_length_8abf5 cJ0_length_8abf5 1 (some .int) :: TB) ({ frames := 1, cells := 0, slots := 0, locals := 20 }) (va_Pc [.ref (tx.2.1 i)] (TxU tx)) (Pj (nI (lenTx.getD i 0))) 0 0 (fun _ => False) := by
  refine Met.ofW (cc := cJ0_length_8abf5) (maxL := 1) (ret := (some .int)) (by decide) rfl ?_
  intro p e s m args below meth c s₁ B hml hv
  obtain ⟨rfl, hX⟩ := hv
  have C0 : CallFix p m c cJ0_length_8abf5 1 s _ TB RJ0 := ⟨B.exec, B.bytes, hml, findClass_of_methodNamed B.named, fun w hw => atoms_spec B.pre w (List.mem_cons_of_mem _ hw)⟩
  have hr := B.returns
  have hlk := B.notSynchronized
  have hx := C0.1
  have hb := C0.2.1
  have hX : TxW tx s s.heap := hX
  have hS : va_S (fun _ : Nat => False) s.heap s.heap [] := va_S.rf
  have hl := lv_entry ([.ref (tx.2.1 i)]) (n := 1) (Nat.le_of_ble_eq_true rfl)
  rw [lg_entry_eq]
  generalize (lg_sl ([.ref (tx.2.1 i)]) ++ List.replicate (1 - (lg_sl ([.ref (tx.2.1 i)])).length) Slot.unset).toArray = ls at hl ⊢
  have hl : lv_has ls 1 [(0, .ref (tx.2.1 i))] := hl
  refine lv_aload_n hx hb dJ0_length_8abf5_0 rfl (lv_at hl 0 rfl) ?_
  refine vk_getf hx hb (hX.1.1 i hi).2.2.1 hS.no C0.2.2.2.1 (C0.2.2.2.2 _ mJ_10_1) (fun _ h => h) dJ0_length_8abf5_1 ?_
  refine va_tlen hx hb (hX.1.1 i hi).2.2.2 hS.no (v := nI (lenTx.getD i 0)) rfl dJ0_length_8abf5_4 ?_
  refine lv_aload_n hx hb dJ0_length_8abf5_5 rfl (lv_at hl 0 rfl) ?_
  refine q_Jv (As := []) (rest := [.int (nI (lenTx.getD i 0))]) C0 (c_J_coder l hi) (cwV 0 C0.2.2.2.2 (tbV mJ_3_149 ⟨mJ_3_150, mJ_3_151, mJ_1_14, mJ_3_152⟩) rfl rfl rfl (by decide +kernel) ⟨Nat.le_of_ble_eq_true rfl, Nat.le_of_ble_eq_true rfl⟩) (vk_recv hX.1 hi hS.no) hX hS rfl hl.1 rfl (Nat.le_of_ble_eq_true rfl) dJ0_length_8abf5_6 ⟨Nat.zero_le _, Nat.zero_le _⟩ (fun H locs hz hq hS => ?_)
  refine lv_ishr hx hb dJ0_length_8abf5_9 ?_
  rw [sc_shr0 (ch_ok i hi).1]
  exact W.iret hx hb hr  (fun t ht hW => ⟨⟨_, (), rfl, rfl, trivial⟩, hS.F ht⟩) hS.2.2 dJ0_length_8abf5_10
set_option maxHeartbeats 4000000 in
set_option maxRecDepth 100000 in
theorem c_J_pcheck (l : Launch) {tx : TX} {i n : Nat} {y : Nat} (hi : i < n) (hn : n < 2 ^ 31) : Met l yJ3_checkIndex_8e157 (Cond.code yJ3_checkIndex_8e157 cJ3_checkIndex_8e157 3 (some .int) :: TB) ({ frames := 0, cells := 0, slots := 0, locals := 0 }) (va_Pc [.int (nI i), .int (nI n), .ref y] (TxU tx)) (Pj (nI i)) 0 0 (fun _ => False) := by
  refine Met.ofW (cc := cJ3_checkIndex_8e157) (maxL := 3) (ret := (some .int)) (by decide) rfl ?_
  intro p e s m args below meth c s₁ B hml hv
  obtain ⟨rfl, hX⟩ := hv
  have C0 : CallFix p m c cJ3_checkIndex_8e157 3 s _ TB RJ3 := ⟨B.exec, B.bytes, hml, findClass_of_methodNamed B.named, fun w hw => atoms_spec B.pre w (List.mem_cons_of_mem _ hw)⟩
  have hr := B.returns
  have hlk := B.notSynchronized
  have hx := C0.1
  have hb := C0.2.1
  have hX : TxW tx s s.heap := hX
  have hS : va_S (fun _ : Nat => False) s.heap s.heap [] := va_S.rf
  have hl := lv_entry ([.int (nI i), .int (nI n), .ref y]) (n := 3) (Nat.le_of_ble_eq_true rfl)
  rw [lg_entry_eq]
  generalize (lg_sl ([.int (nI i), .int (nI n), .ref y]) ++ List.replicate (3 - (lg_sl ([.int (nI i), .int (nI n), .ref y])).length) Slot.unset).toArray = ls at hl ⊢
  have hl : lv_has ls 3 [(0, .int (nI i)), (1, .int (nI n)), (2, .ref y)] := hl
  refine lv_iload_n hx hb dJ3_checkIndex_8e157_0 rfl (lv_at hl 0 rfl) ?_
  refine lv_if_lt (tgt := 9) hx hb dJ3_checkIndex_8e157_1 (by decide) (fun h => absurd h (nI_pos (by omega))) (fun _ => ?_)
  refine lv_iload_n hx hb dJ3_checkIndex_8e157_4 rfl (lv_at hl 0 rfl) ?_
  refine lv_iload_n hx hb dJ3_checkIndex_8e157_5 rfl (lv_at hl 1 rfl) ?_
  refine lv_icmp_lt (tgt := 16) hx hb dJ3_checkIndex_8e157_6 (by decide) (fun _ => ?_) (fun h => absurd (nI_lt hi hn) h)
  refine lv_iload_n hx hb dJ3_checkIndex_8e157_16 rfl (lv_at hl 0 rfl) ?_
  exact W.iret hx hb hr  (fun t ht hW => ⟨⟨_, (), rfl, rfl, trivial⟩, hS.F ht⟩) hS.2.2 dJ3_checkIndex_8e157_17
set_option maxHeartbeats 4000000 in
set_option maxRecDepth 100000 in
theorem c_J_pcheckN (l : Launch) {tx : TX} {i n : Nat} (hi : i < n) (hn : n < 2 ^ 31) : Met l yJ3_checkIndex_8e157 (Cond.code yJ3_checkIndex_8e157 cJ3_checkIndex_8e157 3 (some .int) :: TB) ({ frames := 0, cells := 0, slots := 0, locals := 0 }) (va_Pc [.int (nI i), .int (nI n), .null] (TxU tx)) (Pj (nI i)) 0 0 (fun _ => False) := by
  refine Met.ofW (cc := cJ3_checkIndex_8e157) (maxL := 3) (ret := (some .int)) (by decide) rfl ?_
  intro p e s m args below meth c s₁ B hml hv
  obtain ⟨rfl, hX⟩ := hv
  have C0 : CallFix p m c cJ3_checkIndex_8e157 3 s _ TB RJ3 := ⟨B.exec, B.bytes, hml, findClass_of_methodNamed B.named, fun w hw => atoms_spec B.pre w (List.mem_cons_of_mem _ hw)⟩
  have hr := B.returns
  have hlk := B.notSynchronized
  have hx := C0.1
  have hb := C0.2.1
  have hX : TxW tx s s.heap := hX
  have hS : va_S (fun _ : Nat => False) s.heap s.heap [] := va_S.rf
  have hl := lv_entry ([.int (nI i), .int (nI n), .null]) (n := 3) (Nat.le_of_ble_eq_true rfl)
  rw [lg_entry_eq]
  generalize (lg_sl ([.int (nI i), .int (nI n), .null]) ++ List.replicate (3 - (lg_sl ([.int (nI i), .int (nI n), .null])).length) Slot.unset).toArray = ls at hl ⊢
  have hl : lv_has ls 3 [(0, .int (nI i)), (1, .int (nI n)), (2, .null)] := hl
  refine lv_iload_n hx hb dJ3_checkIndex_8e157_0 rfl (lv_at hl 0 rfl) ?_
  refine lv_if_lt (tgt := 9) hx hb dJ3_checkIndex_8e157_1 (by decide) (fun h => absurd h (nI_pos (by omega))) (fun _ => ?_)
  refine lv_iload_n hx hb dJ3_checkIndex_8e157_4 rfl (lv_at hl 0 rfl) ?_
  refine lv_iload_n hx hb dJ3_checkIndex_8e157_5 rfl (lv_at hl 1 rfl) ?_
  refine lv_icmp_lt (tgt := 16) hx hb dJ3_checkIndex_8e157_6 (by decide) (fun _ => ?_) (fun h => absurd (nI_lt hi hn) h)
  refine lv_iload_n hx hb dJ3_checkIndex_8e157_16 rfl (lv_at hl 0 rfl) ?_
  exact W.iret hx hb hr  (fun t ht hW => ⟨⟨_, (), rfl, rfl, trivial⟩, hS.F ht⟩) hS.2.2 dJ3_checkIndex_8e157_17
set_option maxHeartbeats 4000000 in
set_option maxRecDepth 100000 in
theorem c_J_scheck (l : Launch) {tx : TX} {i n : Nat} (hi : i < n) (hn : n < 2 ^ 31) : Met l yJ0_checkIndex_df160 (Cond.code yJ0_checkIndex_df160 cJ0_checkIndex_df160 2 none :: TB) ({ frames := 1, cells := 0, slots := 0, locals := 22 }) (va_Pc [.int (nI i), .int (nI n)] (TxU tx)) (Pjv) 0 0 (fun _ => False) := by
  refine Met.ofW (cc := cJ0_checkIndex_df160) (maxL := 2) (ret := none) (by decide) rfl ?_
  intro p e s m args below meth c s₁ B hml hv
  obtain ⟨rfl, hX⟩ := hv
  have C0 : CallFix p m c cJ0_checkIndex_df160 2 s _ TB RJ0 := ⟨B.exec, B.bytes, hml, findClass_of_methodNamed B.named, fun w hw => atoms_spec B.pre w (List.mem_cons_of_mem _ hw)⟩
  have hr := B.returns
  have hlk := B.notSynchronized
  have hx := C0.1
  have hb := C0.2.1
  have hX : TxW tx s s.heap := hX
  have hS : va_S (fun _ : Nat => False) s.heap s.heap [] := va_S.rf
  have hl := lv_entry ([.int (nI i), .int (nI n)]) (n := 2) (Nat.le_of_ble_eq_true rfl)
  rw [lg_entry_eq]
  generalize (lg_sl ([.int (nI i), .int (nI n)]) ++ List.replicate (2 - (lg_sl ([.int (nI i), .int (nI n)])).length) Slot.unset).toArray = ls at hl ⊢
  have hl : lv_has ls 2 [(0, .int (nI i)), (1, .int (nI n))] := hl
  refine lv_iload_n hx hb dJ0_checkIndex_df160_0 rfl (lv_at hl 0 rfl) ?_
  refine lv_iload_n hx hb dJ0_checkIndex_df160_1 rfl (lv_at hl 1 rfl) ?_
  rcases hX.2.2.1 with hZ | ⟨y9, hZ⟩
  · refine va_gets hx hb hZ hS.no C0.2.2.2.1 (C0.2.2.2.2 _ mJ_3_173) (fun _ h => h) dJ0_checkIndex_df160_2 ?_
    refine q_Js (As := [.int (nI i), .int (nI n), .null]) (rest := []) C0 (c_J_pcheckN l hi hn) (va_cwS 3 C0.2.2.2.2 (tbS mJ_3_175 ⟨mJ_3_176, mJ_1_16, mJ_3_177⟩) rfl rfl rfl (by decide +kernel) ⟨Nat.le_of_ble_eq_true rfl, Nat.le_of_ble_eq_true rfl⟩) hX hS rfl hl.1 rfl (Nat.le_of_ble_eq_true rfl) dJ0_checkIndex_df160_5 ⟨Nat.zero_le _, Nat.zero_le _⟩ (fun H locs hz hq hS => ?_)
    refine lv_pop hx hb dJ0_checkIndex_df160_8 rfl ?_
    exact W.vret hx hb hr (fun t ht hW => ⟨⟨(), rfl, trivial, trivial⟩, hS.F ht⟩) hS.2.2 dJ0_checkIndex_df160_9
  · refine va_gets hx hb hZ hS.no C0.2.2.2.1 (C0.2.2.2.2 _ mJ_3_173) (fun _ h => h) dJ0_checkIndex_df160_2 ?_
    refine q_Js (As := [.int (nI i), .int (nI n), .ref y9]) (rest := []) C0 (c_J_pcheck l (y := y9) hi hn) (va_cwS 3 C0.2.2.2.2 (tbS mJ_3_175 ⟨mJ_3_176, mJ_1_16, mJ_3_177⟩) rfl rfl rfl (by decide +kernel) ⟨Nat.le_of_ble_eq_true rfl, Nat.le_of_ble_eq_true rfl⟩) hX hS rfl hl.1 rfl (Nat.le_of_ble_eq_true rfl) dJ0_checkIndex_df160_5 ⟨Nat.zero_le _, Nat.zero_le _⟩ (fun H locs hz hq hS => ?_)
    refine lv_pop hx hb dJ0_checkIndex_df160_8 rfl ?_
    exact W.vret hx hb hr (fun t ht hW => ⟨⟨(), rfl, trivial, trivial⟩, hS.F ht⟩) hS.2.2 dJ0_checkIndex_df160_9
set_option maxHeartbeats 4000000 in
set_option maxRecDepth 100000 in
theorem c_J_lchar (l : Launch) {tx : TX} {i j : Nat} (hi : i < nTx) (hj : j < lenTx.getD i 0) : Met l yJ1_charAt_3b067 (Cond.code yJ1_charAt_3b067 cJ1_charAt_3b067 2 (some .char) :: TB) ({ frames := 2, cells := 0, slots := 0, locals := 43 }) (va_Pc [.ref (tx.2.2 i), .int (nI j)] (TxU tx)) (Pj (chTx i j)) 0 0 (fun _ => False) := by
  refine Met.ofW (cc := cJ1_charAt_3b067) (maxL := 2) (ret := (some .char)) (by decide) rfl ?_
  intro p e s m args below meth c s₁ B hml hv
  obtain ⟨rfl, hX⟩ := hv
  have C0 : CallFix p m c cJ1_charAt_3b067 2 s _ TB RJ1 := ⟨B.exec, B.bytes, hml, findClass_of_methodNamed B.named, fun w hw => atoms_spec B.pre w (List.mem_cons_of_mem _ hw)⟩
  have hr := B.returns
  have hlk := B.notSynchronized
  have hx := C0.1
  have hb := C0.2.1
  have hX : TxW tx s s.heap := hX
  have hS : va_S (fun _ : Nat => False) s.heap s.heap [] := va_S.rf
  have hl := lv_entry ([.ref (tx.2.2 i), .int (nI j)]) (n := 2) (Nat.le_of_ble_eq_true rfl)
  rw [lg_entry_eq]
  generalize (lg_sl ([.ref (tx.2.2 i), .int (nI j)]) ++ List.replicate (2 - (lg_sl ([.ref (tx.2.2 i), .int (nI j)])).length) Slot.unset).toArray = ls at hl ⊢
  have hl : lv_has ls 2 [(0, .ref (tx.2.2 i)), (1, .int (nI j))] := hl
  have hn := (ch_ok i hi).1
  refine lv_iload_n hx hb dJ1_charAt_3b067_0 rfl (lv_at hl 1 rfl) ?_
  refine lv_aload_n hx hb dJ1_charAt_3b067_1 rfl (lv_at hl 0 rfl) ?_
  refine va_tlen hx hb (hX.1.1 i hi).2.2.2 hS.no (v := nI (lenTx.getD i 0)) rfl dJ1_charAt_3b067_2 ?_
  refine q_Jsv (As := [.int (nI j), .int (nI (lenTx.getD i 0))]) (rest := []) C0 (c_J_scheck l hj hn) (va_cwS 2 C0.2.2.2.2 (tbS mJ_3_170 ⟨mJ_3_171, mJ_1_14, mJ_3_172⟩) rfl rfl rfl (by decide +kernel) ⟨Nat.le_of_ble_eq_true rfl, Nat.le_of_ble_eq_true rfl⟩) hX hS rfl hl.1 rfl (Nat.le_of_ble_eq_true rfl) dJ1_charAt_3b067_3 ⟨Nat.zero_le _, Nat.zero_le _⟩ (fun H locs hz hq hS => ?_)
  refine lv_aload_n hx hb dJ1_charAt_3b067_6 rfl (lv_at hl 0 rfl) ?_
  refine lv_iload_n hx hb dJ1_charAt_3b067_7 rfl (lv_at hl 1 rfl) ?_
  refine va_tb hx hb (hX.1.1 i hi).2.2.2 hS.no (vp_in_nI hj hn) (v := .int ((bytTx.getD i []).getD j 0)) (by rw [nI_clamp (Nat.lt_trans hj hn)]) dJ1_charAt_3b067_8 ?_
  refine lv_sipush (v := 255) hx hb dJ1_charAt_3b067_9 (by decide) ?_
  refine lv_iand hx hb dJ1_charAt_3b067_12 ?_
  refine lv_i2c (v := chTx i j) hx hb dJ1_charAt_3b067_13 ((ch_ok i hi).2 j hj).2 ?_
  exact W.zret hx hb hr (by rw [← ((ch_ok i hi).2 j hj).2]; exact ((ch_ok i hi).2 j hj).1.trans (by rw [((ch_ok i hi).2 j hj).2])) (fun t ht hW => ⟨⟨_, (), rfl, rfl, trivial⟩, hS.F ht⟩) hS.2.2 dJ1_charAt_3b067_14
set_option maxHeartbeats 4000000 in
set_option maxRecDepth 100000 in
theorem c_J_char (l : Launch) {tx : TX} {i j : Nat} (hi : i < nTx) (hj : j < lenTx.getD i 0) : Met l yJ0_charAt_5068e (Cond.code yJ0_charAt_5068e cJ0_charAt_5068e 2 (some .char) :: TB) ({ frames := 3, cells := 0, slots := 0, locals := 64 }) (va_Pc [.ref (tx.2.1 i), .int (nI j)] (TxU tx)) (Pj (chTx i j)) 0 0 (fun _ => False) := by
  refine Met.ofW (cc := cJ0_charAt_5068e) (maxL := 2) (ret := (some .char)) (by decide) rfl ?_
  intro p e s m args below meth c s₁ B hml hv
  obtain ⟨rfl, hX⟩ := hv
  have C0 : CallFix p m c cJ0_charAt_5068e 2 s _ TB RJ0 := ⟨B.exec, B.bytes, hml, findClass_of_methodNamed B.named, fun w hw => atoms_spec B.pre w (List.mem_cons_of_mem _ hw)⟩
  have hr := B.returns
  have hlk := B.notSynchronized
  have hx := C0.1
  have hb := C0.2.1
  have hX : TxW tx s s.heap := hX
  have hS : va_S (fun _ : Nat => False) s.heap s.heap [] := va_S.rf
  have hl := lv_entry ([.ref (tx.2.1 i), .int (nI j)]) (n := 2) (Nat.le_of_ble_eq_true rfl)
  rw [lg_entry_eq]
  generalize (lg_sl ([.ref (tx.2.1 i), .int (nI j)]) ++ List.replicate (2 - (lg_sl ([.ref (tx.2.1 i), .int (nI j)])).length) Slot.unset).toArray = ls at hl ⊢
  have hl : lv_has ls 2 [(0, .ref (tx.2.1 i)), (1, .int (nI j))] := hl
  refine lv_aload_n hx hb dJ0_charAt_5068e_0 rfl (lv_at hl 0 rfl) ?_
  refine q_Jv (As := []) (rest := []) C0 (c_J_latin l hi) (cwV 0 C0.2.2.2.2 (tbV mJ_3_163 ⟨mJ_3_164, mJ_3_165, mJ_1_14, mJ_3_166⟩) rfl rfl rfl (by decide +kernel) ⟨Nat.le_of_ble_eq_true rfl, Nat.le_of_ble_eq_true rfl⟩) (vk_recv hX.1 hi hS.no) hX hS rfl hl.1 rfl (Nat.le_of_ble_eq_true rfl) dJ0_charAt_5068e_1 ⟨Nat.zero_le _, Nat.zero_le _⟩ (fun H locs hz hq hS => ?_)
  refine lv_if_eq (tgt := 16) hx hb dJ0_charAt_5068e_4 (by decide) (fun h => absurd h (by decide)) (fun _ => ?_)
  refine lv_aload_n hx hb dJ0_charAt_5068e_7 rfl (lv_at hl 0 rfl) ?_
  refine vk_getf hx hb (hX.1.1 i hi).2.2.1 hS.no C0.2.2.2.1 (C0.2.2.2.2 _ mJ_10_1) (fun _ h => h) dJ0_charAt_5068e_8 ?_
  refine lv_iload_n hx hb dJ0_charAt_5068e_11 rfl (lv_at hl 1 rfl) ?_
  have hXH : TxW tx s H := hX.stay hq
  refine q_Js (As := [.ref (tx.2.2 i), .int (nI j)]) (rest := []) C0 (c_J_lchar l hi hj) (va_cwS 2 C0.2.2.2.2 (tbS mJ_3_167 ⟨mJ_3_168, mJ_1_15, mJ_3_169⟩) rfl rfl rfl (by decide +kernel) ⟨Nat.le_of_ble_eq_true rfl, Nat.le_of_ble_eq_true rfl⟩) hXH hS rfl hl.1 rfl (Nat.le_of_ble_eq_true rfl) dJ0_charAt_5068e_12 ⟨Nat.zero_le _, Nat.zero_le _⟩ (fun H locs hz hq hS => ?_)
  exact W.zret hx hb hr (by rw [← ((ch_ok i hi).2 j hj).2]; exact ((ch_ok i hi).2 j hj).1.trans (by rw [((ch_ok i hi).2 j hj).2])) (fun t ht hW => ⟨⟨_, (), rfl, rfl, trivial⟩, hS.F ht⟩) hS.2.2 dJ0_charAt_5068e_15
/-- Math.floorMod(x, 6) -/
def fmod6 (x : Int32) : Int32 := if 0 ≤ (x ^^^ 6) then x - x / 6 * 6 else if x - x / 6 * 6 = 0 then x - x / 6 * 6 else x - x / 6 * 6 + 6
theorem tx_recv {s : State} {H : Heap} {tx : TX} (hX : TxW tx s H) {i : Nat} (hi : i < nTx) : ∃ cell : Cell, H[tx.2.1 i]? = some cell ∧ cell.vm.isStatics = false ∧ s.vm.findClass RJ0 = some cell.cls := by
  obtain ⟨cell, h1, h2, h3, -⟩ := (hX.1.1 i hi).1
  exact ⟨cell, h1, h2, h3⟩
theorem lv_eqi {p : Program} {l : Launch} {e : Env} {R : Room} {s : State} {m : MethodId} {args : Array Value} {below : List Frame} {meth : Method} {c : Code} {H : Heap} {locs : List Loc} {cells slots : Nat} {Q : State → Prop} {pc : Nat} {ls : Array Slot} {rest : List Value} {x y : Int32} (e9 : x = y) (k : W p l e R s m args below meth c H locs cells slots Q (F0 m pc ls (.int y :: rest))) : W p l e R s m args below meth c H locs cells slots Q (F0 m pc ls (.int x :: rest)) := by
  rw [e9]
  exact k
theorem met_ofWF {y : MethodName} {l : Launch} {ws ws' : List Cond} {rm : Room} {Pc : Array Value → State → Prop} {Qc : Array Value → State → Outcome → State → Prop} {mc ms : Nat} {free : Addr → Prop} {cc : ByteArray} {maxL : Nat} {ret : Option FieldType}
    (hy : plainFor y = true) (hw : ws = Cond.code y cc maxL ret :: ws')
    (body : ∀ p e s m args below meth c s₁, BodyLoose p l y (headSpec ws rm) cc maxL ret e s m args below meth c s₁ → c.maxLocals = maxL → Pc args s →
      W p l e (headSpec ws rm).room s m args below meth c s.heap [] 0 0 (MQ below Qc args s mc ms free) (entryFrame m args maxL)) : Met l y ws rm Pc Qc mc ms free := by
  refine MetFree.of_bodySF (code := cc) (maxLocals := maxL) (ret := ret) hy ?_ ?_
  · intro args s m h hn
    obtain ⟨meth, c, h1, h2, h3, h4, h5, h6, -, -⟩ := Cond.code_spec hn (atoms_spec (ws := ws) h _ (by rw [hw]; exact List.mem_cons_self))
    exact ⟨meth, c, h1, h2, h3, h4, h5, h6⟩
  · intro p e s m args below meth c s₁ B hml hP _
    have hh0 : s₁.heap = s.heap := by rw [B.state]; rfl
    obtain ⟨t, a1, o, b1, b2, b3⟩ := body p e s m args below meth c s₁ B hml hP s₁ hh0 (Stand.of_body B)
    exact ⟨t, o, a1, b1, b2, ⟨b3.1, b3.2⟩⟩
set_option maxHeartbeats 4000000 in
set_option maxRecDepth 100000 in
theorem c_J_fmod (l : Launch) {tx : TX} (x : Int32) : Met l yJ9_floorMod_7cf53 (Cond.code yJ9_floorMod_7cf53 cJ9_floorMod_7cf53 3 (some .int) :: TB) ({ frames := 0, cells := 0, slots := 0, locals := 0 }) (va_Pc [.int x, .int 6] (TxU tx)) (Pj (fmod6 x)) 0 0 (fun _ => False) := by
  refine met_ofWF (cc := cJ9_floorMod_7cf53) (maxL := 3) (ret := some .int) (by decide +kernel) rfl ?_
  intro p e s m args below meth c s₁ B hml hv
  obtain ⟨rfl, hX⟩ := hv
  have hx := B.exec
  have hb := B.bytes
  have hr := B.returns
  have hS : va_S (fun _ => False) s.heap s.heap [] := va_S.rf
  have hl := lv_entry ([.int x, .int 6]) (n := 3) (Nat.le_of_ble_eq_true rfl)
  rw [lg_entry_eq]
  generalize (lg_sl ([.int x, .int 6]) ++ List.replicate (3 - (lg_sl ([.int x, .int 6])).length) Slot.unset).toArray = ls at hl ⊢
  have hl : lv_has ls 3 [(0, .int x), (1, .int 6)] := hl
  refine lv_iload_n hx hb dJ9_floorMod_7cf53_0 rfl (lv_at hl 0 rfl) ?_
  refine lv_iload_n hx hb dJ9_floorMod_7cf53_1 rfl (lv_at hl 1 rfl) ?_
  refine lv_irem hx hb dJ9_floorMod_7cf53_2 (by decide) ?_
  refine lv_topi (fun y ey => ?_)
  refine lv_istore_n (lv' := [(2, .int y), (0, .int x), (1, .int 6)]) hx hb dJ9_floorMod_7cf53_3 rfl hl (by decide) rfl (fun ls hl => ?_)
  refine lv_iload_n hx hb dJ9_floorMod_7cf53_4 rfl (lv_at hl 1 rfl) ?_
  refine lv_iload_n hx hb dJ9_floorMod_7cf53_5 rfl (lv_at hl 2 rfl) ?_
  refine lv_ixor hx hb dJ9_floorMod_7cf53_6 ?_
  refine lv_if_ge (tgt := 18) hx hb dJ9_floorMod_7cf53_7 (by decide) (fun c1 => ?_) (fun c1 => ?_)
  · refine lv_iload_n hx hb dJ9_floorMod_7cf53_18 rfl (lv_at hl 0 rfl) ?_
    have hy : y = fmod6 x := by rw [ey]; unfold fmod6; rw [if_pos c1]
    rw [hy]
    exact W.iret hx hb hr (fun t ht hW => ⟨⟨_, (), rfl, rfl, trivial⟩, hS.F ht⟩) hS.2.2 dJ9_floorMod_7cf53_19
  refine lv_iload_n hx hb dJ9_floorMod_7cf53_10 rfl (lv_at hl 0 rfl) ?_
  refine lv_if_eq (tgt := 18) hx hb dJ9_floorMod_7cf53_11 (by decide) (fun c2 => ?_) (fun c2 => ?_)
  · refine lv_iload_n hx hb dJ9_floorMod_7cf53_18 rfl (lv_at hl 0 rfl) ?_
    have hy : y = fmod6 x := by rw [ey] at c2 ⊢; unfold fmod6; rw [if_neg c1, if_pos c2]
    rw [hy]
    exact W.iret hx hb hr (fun t ht hW => ⟨⟨_, (), rfl, rfl, trivial⟩, hS.F ht⟩) hS.2.2 dJ9_floorMod_7cf53_19
  refine lv_iload_n hx hb dJ9_floorMod_7cf53_14 rfl (lv_at hl 0 rfl) ?_
  refine lv_iload_n hx hb dJ9_floorMod_7cf53_15 rfl (lv_at hl 2 rfl) ?_
  refine lv_iadd hx hb dJ9_floorMod_7cf53_16 ?_
  have hy : y + 6 = fmod6 x := by rw [ey] at c2 ⊢; unfold fmod6; rw [if_neg c1, if_neg c2]
  rw [hy]
  exact W.iret hx hb hr (fun t ht hW => ⟨⟨_, (), rfl, rfl, trivial⟩, hS.F ht⟩) hS.2.2 dJ9_floorMod_7cf53_17
theorem tr_0 {s : State} {tx : TX} (hT : TxR tx s) : vk_R RX7 43 "job" (tx.2.1 0) s := hT.1 (RX7, 43, "job", 0) (List.mem_of_getElem? (i := 0) rfl)
theorem tr_1 {s : State} {tx : TX} (hT : TxR tx s) : vk_R RX7 76 "group" (tx.2.1 1) s := hT.1 (RX7, 76, "group", 1) (List.mem_of_getElem? (i := 1) rfl)
theorem tr_2 {s : State} {tx : TX} (hT : TxR tx s) : vk_R RX7 82 "priority" (tx.2.1 2) s := hT.1 (RX7, 82, "priority", 2) (List.mem_of_getElem? (i := 2) rfl)
theorem tr_3 {s : State} {tx : TX} (hT : TxR tx s) : vk_R RX7 84 "cost" (tx.2.1 3) s := hT.1 (RX7, 84, "cost", 3) (List.mem_of_getElem? (i := 3) rfl)
theorem tr_4 {s : State} {tx : TX} (hT : TxR tx s) : vk_R RX7 86 "in" (tx.2.1 4) s := hT.1 (RX7, 86, "in", 4) (List.mem_of_getElem? (i := 4) rfl)
theorem tr_5 {s : State} {tx : TX} (hT : TxR tx s) : vk_R RX7 55 "session" (tx.2.1 5) s := hT.1 (RX7, 55, "session", 5) (List.mem_of_getElem? (i := 5) rfl)
theorem tr_6 {s : State} {tx : TX} (hT : TxR tx s) : vk_R RX7 110 "skew" (tx.2.1 6) s := hT.1 (RX7, 110, "skew", 6) (List.mem_of_getElem? (i := 6) rfl)
theorem tr_7 {s : State} {tx : TX} (hT : TxR tx s) : vk_R RX7 112 "slow" (tx.2.1 7) s := hT.1 (RX7, 112, "slow", 7) (List.mem_of_getElem? (i := 7) rfl)
theorem tr_8 {s : State} {tx : TX} (hT : TxR tx s) : vk_R RX7 63 "every" (tx.2.1 8) s := hT.1 (RX7, 63, "every", 8) (List.mem_of_getElem? (i := 8) rfl)
theorem tr_9 {s : State} {tx : TX} (hT : TxR tx s) : vk_R RX7 126 "at" (tx.2.1 9) s := hT.1 (RX7, 126, "at", 9) (List.mem_of_getElem? (i := 9) rfl)
theorem tr_10 {s : State} {tx : TX} (hT : TxR tx s) : vk_R RX7 142 "each" (tx.2.1 10) s := hT.1 (RX7, 142, "each", 10) (List.mem_of_getElem? (i := 10) rfl)
theorem tr_11 {s : State} {tx : TX} (hT : TxR tx s) : vk_R RX7 144 "grace" (tx.2.1 11) s := hT.1 (RX7, 144, "grace", 11) (List.mem_of_getElem? (i := 11) rfl)
theorem tr_12 {s : State} {tx : TX} (hT : TxR tx s) : vk_R RX7 68 "parallel" (tx.2.1 12) s := hT.1 (RX7, 68, "parallel", 12) (List.mem_of_getElem? (i := 12) rfl)
theorem tr_13 {s : State} {tx : TX} (hT : TxR tx s) : vk_R RX7 158 "lease" (tx.2.1 13) s := hT.1 (RX7, 158, "lease", 13) (List.mem_of_getElem? (i := 13) rfl)
theorem tr_14 {s : State} {tx : TX} (hT : TxR tx s) : vk_R RX7 163 "base" (tx.2.1 14) s := hT.1 (RX7, 163, "base", 14) (List.mem_of_getElem? (i := 14) rfl)
theorem tr_15 {s : State} {tx : TX} (hT : TxR tx s) : vk_R RX7 164 "cap" (tx.2.1 15) s := hT.1 (RX7, 164, "cap", 15) (List.mem_of_getElem? (i := 15) rfl)
theorem tr_16 {s : State} {tx : TX} (hT : TxR tx s) : vk_R RX7 166 "jitter" (tx.2.1 16) s := hT.1 (RX7, 166, "jitter", 16) (List.mem_of_getElem? (i := 16) rfl)
theorem tr_17 {s : State} {tx : TX} (hT : TxR tx s) : vk_R RX7 168 "limit" (tx.2.1 17) s := hT.1 (RX7, 168, "limit", 17) (List.mem_of_getElem? (i := 17) rfl)
theorem tr_18 {s : State} {tx : TX} (hT : TxR tx s) : vk_R RX3 47 "claim" (tx.2.1 18) s := hT.1 (RX3, 47, "claim", 18) (List.mem_of_getElem? (i := 18) rfl)
theorem tr_19 {s : State} {tx : TX} (hT : TxR tx s) : vk_R RX3 53 "where" (tx.2.1 19) s := hT.1 (RX3, 53, "where", 19) (List.mem_of_getElem? (i := 19) rfl)
theorem tr_20 {s : State} {tx : TX} (hT : TxR tx s) : vk_R RX3 100 "number" (tx.2.1 20) s := hT.1 (RX3, 100, "number", 20) (List.mem_of_getElem? (i := 20) rfl)
theorem tr_21 {s : State} {tx : TX} (hT : TxR tx s) : vk_R RX3 101 "group" (tx.2.1 1) s := hT.1 (RX3, 101, "group", 1) (List.mem_of_getElem? (i := 21) rfl)
theorem tr_22 {s : State} {tx : TX} (hT : TxR tx s) : vk_R RX3 103 "priority" (tx.2.1 2) s := hT.1 (RX3, 103, "priority", 2) (List.mem_of_getElem? (i := 22) rfl)
theorem tr_23 {s : State} {tx : TX} (hT : TxR tx s) : vk_R RX3 105 "cost" (tx.2.1 3) s := hT.1 (RX3, 105, "cost", 3) (List.mem_of_getElem? (i := 23) rfl)
theorem tr_24 {s : State} {tx : TX} (hT : TxR tx s) : vk_R RX3 107 "tries" (tx.2.1 21) s := hT.1 (RX3, 107, "tries", 21) (List.mem_of_getElem? (i := 24) rfl)
theorem tr_25 {s : State} {tx : TX} (hT : TxR tx s) : vk_R RX3 109 "age" (tx.2.1 22) s := hT.1 (RX3, 109, "age", 22) (List.mem_of_getElem? (i := 25) rfl)
theorem tr_26 {s : State} {tx : TX} (hT : TxR tx s) : vk_R RX3 111 "late" (tx.2.1 23) s := hT.1 (RX3, 111, "late", 23) (List.mem_of_getElem? (i := 26) rfl)
theorem tr_27 {s : State} {tx : TX} (hT : TxR tx s) : vk_R RX3 113 "turn" (tx.2.1 24) s := hT.1 (RX3, 113, "turn", 24) (List.mem_of_getElem? (i := 27) rfl)
theorem tr_28 {s : State} {tx : TX} (hT : TxR tx s) : vk_R RX3 87 "and" (tx.2.1 25) s := hT.1 (RX3, 87, "and", 25) (List.mem_of_getElem? (i := 28) rfl)
theorem tr_29 {s : State} {tx : TX} (hT : TxR tx s) : vk_R RX3 63 "order" (tx.2.1 26) s := hT.1 (RX3, 63, "order", 26) (List.mem_of_getElem? (i := 29) rfl)
theorem tr_30 {s : State} {tx : TX} (hT : TxR tx s) : vk_R RX3 92 "by" (tx.2.1 27) s := hT.1 (RX3, 92, "by", 27) (List.mem_of_getElem? (i := 30) rfl)
theorem tr_31 {s : State} {tx : TX} (hT : TxR tx s) : vk_R RX3 94 "desc" (tx.2.1 28) s := hT.1 (RX3, 94, "desc", 28) (List.mem_of_getElem? (i := 31) rfl)
theorem tr_32 {s : State} {tx : TX} (hT : TxR tx s) : vk_R RX12 159 "job" (tx.2.1 0) s := hT.1 (RX12, 159, "job", 0) (List.mem_of_getElem? (i := 32) rfl)
theorem tr_33 {s : State} {tx : TX} (hT : TxR tx s) : vk_R RX12 122 "group" (tx.2.1 1) s := hT.1 (RX12, 122, "group", 1) (List.mem_of_getElem? (i := 33) rfl)
theorem tr_34 {s : State} {tx : TX} (hT : TxR tx s) : vk_R RX12 128 "priority" (tx.2.1 2) s := hT.1 (RX12, 128, "priority", 2) (List.mem_of_getElem? (i := 34) rfl)
theorem tr_35 {s : State} {tx : TX} (hT : TxR tx s) : vk_R RX12 130 "cost" (tx.2.1 3) s := hT.1 (RX12, 130, "cost", 3) (List.mem_of_getElem? (i := 35) rfl)
theorem tr_36 {s : State} {tx : TX} (hT : TxR tx s) : vk_R RX12 132 "in" (tx.2.1 4) s := hT.1 (RX12, 132, "in", 4) (List.mem_of_getElem? (i := 36) rfl)
theorem tr_37 {s : State} {tx : TX} (hT : TxR tx s) : vk_R RX12 165 "session" (tx.2.1 5) s := hT.1 (RX12, 165, "session", 5) (List.mem_of_getElem? (i := 37) rfl)
theorem tr_38 {s : State} {tx : TX} (hT : TxR tx s) : vk_R RX12 140 "skew" (tx.2.1 6) s := hT.1 (RX12, 140, "skew", 6) (List.mem_of_getElem? (i := 38) rfl)
theorem tr_39 {s : State} {tx : TX} (hT : TxR tx s) : vk_R RX12 142 "slow" (tx.2.1 7) s := hT.1 (RX12, 142, "slow", 7) (List.mem_of_getElem? (i := 39) rfl)
theorem tr_40 {s : State} {tx : TX} (hT : TxR tx s) : vk_R RX12 170 "parallel" (tx.2.1 12) s := hT.1 (RX12, 170, "parallel", 12) (List.mem_of_getElem? (i := 40) rfl)
theorem tr_41 {s : State} {tx : TX} (hT : TxR tx s) : vk_R RX12 175 "every" (tx.2.1 8) s := hT.1 (RX12, 175, "every", 8) (List.mem_of_getElem? (i := 41) rfl)
theorem tr_42 {s : State} {tx : TX} (hT : TxR tx s) : vk_R RX12 147 "at" (tx.2.1 9) s := hT.1 (RX12, 147, "at", 9) (List.mem_of_getElem? (i := 42) rfl)
theorem tr_43 {s : State} {tx : TX} (hT : TxR tx s) : vk_R RX12 149 "each" (tx.2.1 10) s := hT.1 (RX12, 149, "each", 10) (List.mem_of_getElem? (i := 43) rfl)
theorem tr_44 {s : State} {tx : TX} (hT : TxR tx s) : vk_R RX12 151 "grace" (tx.2.1 11) s := hT.1 (RX12, 151, "grace", 11) (List.mem_of_getElem? (i := 44) rfl)
theorem tr_45 {s : State} {tx : TX} (hT : TxR tx s) : vk_R RX12 180 "lease" (tx.2.1 13) s := hT.1 (RX12, 180, "lease", 13) (List.mem_of_getElem? (i := 45) rfl)
theorem tr_46 {s : State} {tx : TX} (hT : TxR tx s) : vk_R RX12 182 "base" (tx.2.1 14) s := hT.1 (RX12, 182, "base", 14) (List.mem_of_getElem? (i := 46) rfl)
theorem tr_47 {s : State} {tx : TX} (hT : TxR tx s) : vk_R RX12 184 "cap" (tx.2.1 15) s := hT.1 (RX12, 184, "cap", 15) (List.mem_of_getElem? (i := 47) rfl)
theorem tr_48 {s : State} {tx : TX} (hT : TxR tx s) : vk_R RX12 186 "jitter" (tx.2.1 16) s := hT.1 (RX12, 186, "jitter", 16) (List.mem_of_getElem? (i := 48) rfl)
theorem tr_49 {s : State} {tx : TX} (hT : TxR tx s) : vk_R RX12 188 "limit" (tx.2.1 17) s := hT.1 (RX12, 188, "limit", 17) (List.mem_of_getElem? (i := 49) rfl)
theorem tr_50 {s : State} {tx : TX} (hT : TxR tx s) : vk_R RX12 233 "claim" (tx.2.1 18) s := hT.1 (RX12, 233, "claim", 18) (List.mem_of_getElem? (i := 50) rfl)
theorem tr_51 {s : State} {tx : TX} (hT : TxR tx s) : vk_R RX12 235 "where" (tx.2.1 19) s := hT.1 (RX12, 235, "where", 19) (List.mem_of_getElem? (i := 51) rfl)
theorem tr_52 {s : State} {tx : TX} (hT : TxR tx s) : vk_R RX12 203 "number" (tx.2.1 20) s := hT.1 (RX12, 203, "number", 20) (List.mem_of_getElem? (i := 52) rfl)
theorem tr_53 {s : State} {tx : TX} (hT : TxR tx s) : vk_R RX12 204 "tries" (tx.2.1 21) s := hT.1 (RX12, 204, "tries", 21) (List.mem_of_getElem? (i := 53) rfl)
theorem tr_54 {s : State} {tx : TX} (hT : TxR tx s) : vk_R RX12 206 "age" (tx.2.1 22) s := hT.1 (RX12, 206, "age", 22) (List.mem_of_getElem? (i := 54) rfl)
theorem tr_55 {s : State} {tx : TX} (hT : TxR tx s) : vk_R RX12 208 "late" (tx.2.1 23) s := hT.1 (RX12, 208, "late", 23) (List.mem_of_getElem? (i := 55) rfl)
theorem tr_56 {s : State} {tx : TX} (hT : TxR tx s) : vk_R RX12 210 "turn" (tx.2.1 24) s := hT.1 (RX12, 210, "turn", 24) (List.mem_of_getElem? (i := 56) rfl)
theorem tr_57 {s : State} {tx : TX} (hT : TxR tx s) : vk_R RX12 226 "and" (tx.2.1 25) s := hT.1 (RX12, 226, "and", 25) (List.mem_of_getElem? (i := 57) rfl)
theorem tr_58 {s : State} {tx : TX} (hT : TxR tx s) : vk_R RX12 240 "order" (tx.2.1 26) s := hT.1 (RX12, 240, "order", 26) (List.mem_of_getElem? (i := 58) rfl)
theorem tr_59 {s : State} {tx : TX} (hT : TxR tx s) : vk_R RX12 228 "by" (tx.2.1 27) s := hT.1 (RX12, 228, "by", 27) (List.mem_of_getElem? (i := 59) rfl)
theorem tr_60 {s : State} {tx : TX} (hT : TxR tx s) : vk_R RX12 221 "desc" (tx.2.1 28) s := hT.1 (RX12, 221, "desc", 28) (List.mem_of_getElem? (i := 60) rfl)
end TXT
