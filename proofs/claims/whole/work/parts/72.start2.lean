section START
theorem mZ_1_28 : Cond.classLink RL 8 RX11 ∈ TB := tbT_1 _ (List.mem_of_getElem? (i := 28) rfl) rfl
theorem mZ_1_29 : Cond.instantiable RX11 8 ∈ TB := tbT_1 _ (List.mem_of_getElem? (i := 29) rfl) rfl
theorem mZ_1_1 : Cond.initialized RX11 ∈ TB := tbT_1 _ (List.mem_of_getElem? (i := 1) rfl) rfl
theorem mZ_1_32 : Cond.code yX11_init cX11_init 1 none ∈ TB := tbT_1 _ (List.mem_of_getElem? (i := 32) rfl) rfl
theorem mZ_1_30 : Cond.methodLink RL 134 yX11_init ∈ TB := tbT_1 _ (List.mem_of_getElem? (i := 30) rfl) rfl
theorem mZ_1_31 : Cond.instanceMethod yX11_init ∈ TB := tbT_1 _ (List.mem_of_getElem? (i := 31) rfl) rfl
theorem mZ_7_68 : Cond.classLink RL 135 RX12 ∈ TB := tbT_7 _ (List.mem_of_getElem? (i := 68) rfl) rfl
theorem mZ_7_69 : Cond.instantiable RX12 19 ∈ TB := tbT_7 _ (List.mem_of_getElem? (i := 69) rfl) rfl
theorem mZ_1_11 : Cond.initialized RX12 ∈ TB := tbT_1 _ (List.mem_of_getElem? (i := 11) rfl) rfl
theorem mZ_7_72 : Cond.code yX12_init cX12_init 2 none ∈ TB := tbT_7 _ (List.mem_of_getElem? (i := 72) rfl) rfl
theorem mZ_7_70 : Cond.methodLink RL 137 yX12_init ∈ TB := tbT_7 _ (List.mem_of_getElem? (i := 70) rfl) rfl
theorem mZ_7_71 : Cond.instanceMethod yX12_init ∈ TB := tbT_7 _ (List.mem_of_getElem? (i := 71) rfl) rfl
theorem mZ_9_221 : Cond.arrayClass .long ∈ TB := tbT_9 _ (List.mem_of_getElem? (i := 221) rfl) rfl
theorem va_S.tr {A B : Nat → Prop} {H0 H H1 : Heap} {l1 l2 : List Loc} (h : va_S A H0 H l1) (h1 : va_S B H H1 l2) (hAB : ∀ q, B q → A q) : va_S A H0 H1 l2 :=
  ⟨Nat.le_trans h.1 h1.1, fun q q1 q2 => (h1.2.1 q (Nat.lt_of_lt_of_le q1 h.1) (fun q3 => q2 (hAB q q3))).trans (h.2.1 q q1 q2), fun l hl => hAB _ (h1.2.2 l hl)⟩
theorem w_size {p : Program} {l : Launch} {e : Env} {R : Room} {s : State} {m : MethodId} {args : Array Value} {below : List Frame} {meth : Method} {c : Code} {H : Heap} {locs : List Loc} {cells slots : Nat} {Q : State → Prop} {g : JFrame} (kk : H.size ≤ s.heap.size + cells → W p l e R s m args below meth c H locs cells slots Q g) : W p l e R s m args below meth c H locs cells slots Q g := fun T hT X => kk (by have h := X.same.2.2.1; rw [← hT]; exact h) T hT X
set_option maxHeartbeats 8000000 in
set_option maxRecDepth 100000 in
theorem law_start {p : Program} {e : Env} {s : State} {m : MethodId} {below : List Frame} {meth : Method} {c : Code} (l : Launch) (hl0 : l.stackTraces = false) {b0 L : Nat} {xs : Nat → Int32} (hL : L ≤ 3072) (C0 : lw_At p s m meth c b0 L xs) {Inv : Nat → sSt → sSt → Prop} (hinit : F_X12_init2 S0m (fun Sm => Inv 0 S0c Sm))
    (hstep : ∀ (t : Nat) (Sc Sm : sSt) (o : Int64) (w a1 a2 a3 a4 a5 : Int32), t < 512 → Inv t Sc Sm → CSX w a1 a2 a3 a4 a5 Sc Sm o (fun S1 S2 _ => Inv (t + 1) S1 S2)) : W p l e room_1 s m #[Value.ref b0] below meth c s.heap [] 0 0 (lw_Z below #[Value.ref b0] s) (entryFrame m ([Value.ref b0] : List Value).toArray 7) := by
  obtain ⟨hx, hb, hr, hml, hown, hts, hX, hbl, hlocks, hgv⟩ := id C0
  obtain ⟨tx, htx, hXW, hT⟩ := start_X hts hgv
  have hN := start_N hgv
  obtain ⟨D, cy, hK, hKo, hAO⟩ := start_K hts
  have C1 : CallFix p m c cL_law 7 s #[Value.ref b0] TB RL := ⟨hx, hb, hml, hown, fun w hw => hts w (TB_in w hw)⟩
  obtain ⟨b, hb1⟩ : ∃ b : Nat, b = s.heap.size := ⟨_, rfl⟩
  have hxb : tx.1 ≤ b := by rw [htx, hb1]; exact Nat.le_refl _
  have hS : va_S (bA b) s.heap s.heap [] := va_S.rf
  have hR : qRel D cy b 0 (fun _ => .inr (0, [])) s s.heap := qRel.mk (fun o ho => absurd ho (Nat.not_lt_zero o)) hK (by rw [hb1]; rfl)
  have hl := lv_entry ([.ref b0]) (n := 7) (Nat.le_of_ble_eq_true rfl)
  rw [lg_entry_eq]
  generalize (lg_sl ([.ref b0]) ++ List.replicate (7 - (lg_sl ([.ref b0])).length) Slot.unset).toArray = ls at hl ⊢
  have hl : lv_has ls 7 [(0, .ref b0)] := hl
  refine q_new (ci := 9) (fs := [.null, .null, .null, .null, .null, .null, .int 0, .int 0]) (C := RX11) (T := TX11) (N := 8) C1 hR hS tbs_wsX110 tyX11 tyX11_ok mZ_1_28 mZ_1_29 mZ_1_1 rfl (fun j hj => by rcases (show j = 0 ∨ j = 1 ∨ j = 2 ∨ j = 3 ∨ j = 4 ∨ j = 5 ∨ j = 6 ∨ j = 7 by omega) with rfl | rfl | rfl | rfl | rfl | rfl | rfl | rfl <;> rfl) (Nat.le_of_ble_eq_true rfl) (Nat.le_of_ble_eq_true rfl) dL_law_0 (fun H hR hS => ?_)
  refine lv_dup hx hb dL_law_3 rfl ?_
  refine q_init C1 (c_X11_init l (o := 0) upE_self gc_11) (cwI 0 C1.2.2.2.2 (tbI mZ_1_32) rfl rfl rfl (C1.2.2.2.2 _ mZ_1_1) (C1.2.2.2.2 _ mZ_1_30) (C1.2.2.2.2 _ mZ_1_31) rfl (by decide +kernel) ⟨Nat.le_of_ble_eq_true rfl, Nat.le_of_ble_eq_true rfl⟩) hR hAO hT hS hl.1 (Nat.le_of_ble_eq_true rfl) dL_law_4 ⟨Nat.le_of_ble_eq_true rfl, Nat.le_of_ble_eq_true rfl⟩ (fun H locs hR hS => ?_)
  have hR : qRel D cy b 709 (Gc cy b) s H := hR.ext (fun x hx => (if_neg (by omega)).symm)
  refine va_forget (fun q hq => by rw [← hb1]; exact hS.2.2 q hq) ?_
  have hS : va_S (bA b) s.heap H [] := ⟨hS.1, hS.2.1, fun q hq => absurd hq List.not_mem_nil⟩
  refine W.widen (k := 709) (n := 6757) (Nat.le_of_ble_eq_true rfl) (Nat.le_of_ble_eq_true rfl) ?_
  refine lv_astore_n (lv' := [(1, .ref (b + 0)), (0, .ref b0)]) hx hb dL_law_7 rfl hl (by decide) rfl (fun ls hl => ?_)
  have hR2 : qRel D cy (b + 709) 0 (fun _ => .inr (0, [])) s H := qRel.mk (fun o ho => absurd ho (Nat.not_lt_zero o)) hK hR.2.2
  refine q_new (ci := 10) (fs := [.int 0, .int 0, .null, .null, .null, .null, .null, .int 0, .null, .int 0, .int 0, .int 0, .int 0, .int 0, .null, .null, .null, .null, .null]) (C := RX12) (T := TX12) (N := 19) C1 hR2 va_S.rf tbs_wsX120 tyX12 tyX12_ok mZ_7_68 mZ_7_69 mZ_1_11 rfl (fun j hj => by rcases (show j = 0 ∨ j = 1 ∨ j = 2 ∨ j = 3 ∨ j = 4 ∨ j = 5 ∨ j = 6 ∨ j = 7 ∨ j = 8 ∨ j = 9 ∨ j = 10 ∨ j = 11 ∨ j = 12 ∨ j = 13 ∨ j = 14 ∨ j = 15 ∨ j = 16 ∨ j = 17 ∨ j = 18 by omega) with rfl | rfl | rfl | rfl | rfl | rfl | rfl | rfl | rfl | rfl | rfl | rfl | rfl | rfl | rfl | rfl | rfl | rfl | rfl <;> rfl) (Nat.le_of_ble_eq_true rfl) (Nat.le_of_ble_eq_true rfl) dL_law_8 (fun H2 hR2 hS2 => ?_)
  have hS3 := hS.tr hS2 (fun q h => (Nat.le_trans (Nat.le_add_right b 709) h : b ≤ q))
  have hXW2 : TxW tx s H2 := hXW.kept fun a ha hn => hS3.2.1 a ha fun h9 => hn (Nat.le_trans hxb h9)
  refine lv_dup hx hb dL_law_11 rfl ?_
  refine va_callv (va_runI (As := []) (rest := [.ref (b + 709 + 0)]) C1 (c_X12_init l (b := b + 709) (tx := tx) (k := fun Sm => Inv 0 S0c Sm) hinit upE_self (Nat.le_trans hxb (Nat.le_add_right _ _))) (cwI 0 C1.2.2.2.2 (tbI mZ_7_72) rfl rfl rfl (C1.2.2.2.2 _ mZ_1_11) (C1.2.2.2.2 _ mZ_7_70) (C1.2.2.2.2 _ mZ_7_71) rfl (by decide +kernel) ⟨Nat.le_of_ble_eq_true rfl, Nat.le_of_ble_eq_true rfl⟩) ⟨fun a9 U g mk q => ⟨q.1, q.2.1.moved (u := U) (U := U.calling g mk a9) (Vm.Alike.refl U.vm), q.2.2.1.moved (u := U) (U := U.calling g mk a9) (Vm.Alike.refl U.vm), TxR.same (u := U) (U := U.calling g mk a9) rfl q.2.2.2.1, q.2.2.2.2.moved (u := U) (U := U.calling g mk a9) (Vm.Alike.refl U.vm)⟩, fun U hU hW => ⟨rfl, by rw [hU]; exact hR2.moved hW.alike, hAO.moved hW.alike, hT.warm hW, by rw [hU]; exact hXW2.moved hW.alike⟩⟩ rfl rfl hl.1 rfl (lv_room (Nat.le_of_ble_eq_true rfl)) dL_law_12 ⟨Nat.le_of_ble_eq_true rfl, Nat.le_of_ble_eq_true rfl⟩) hS3 (fun q _ h => (gA_bA' h : bA b q)) (fun q h => (gA_bA' h : bA b q)) (fun Sm t H3 locs ht hvm hI hM hz hk hS => ?_)
  rw [ht] at hM
  have hM : RelM D cy (b + 709) (b + 709 + 12) tx Sm s H3 := hM.moved hvm.symm
  have hCk : ∀ q : Nat, q < b + 709 → H3[q]? = H[q]? := fun q hq => (hk q (by rw [hR2.2.2]; omega) (fun g => by rcases g with g | g <;> omega)).trans (hS2.2.1 q (by rw [hR.2.2]; exact hq) (fun g => by have g : b + 709 ≤ q := g; omega))
  refine W.widen (k := 721) (n := 31008) (Nat.le_of_ble_eq_true rfl) (Nat.le_of_ble_eq_true rfl) ?_
  refine lv_astore_n (lv' := [(2, .ref (b + 709 + 0)), (1, .ref (b + 0)), (0, .ref b0)]) hx hb dL_law_15 rfl hl (by decide) rfl (fun ls hl => ?_)
  refine lv_iconst (v := 1) hx hb dL_law_16 (by decide) ?_
  refine w_size (fun hz9 => ?_)
  have hz3 : H3.size = b + 721 := by have h9 := hM.1.2.2; omega
  refine va_newaK (atype := .long) hx hb (hts _ (TB_in _ mZ_9_221)) rfl dL_law_17 rfl (by decide) (N := 1) (by decide) (by decide) (Nat.le_of_ble_eq_true rfl) (Nat.le_of_ble_eq_true rfl) hz3 fun H4 cA e4 z4 o4 hAr hNm => ?_
  have hcA : cA = cy 8 := Option.some.inj (hNm.symm.trans (hKo.2 0 _ rfl).2)
  subst hcA
  have hCk4 : ∀ q : Nat, q < b + 709 → H4[q]? = H[q]? := fun q hq => (o4 q (by omega)).trans (hCk q hq)
  have hS4 : va_S (bA b) s.heap H4 locs := ⟨Nat.le_trans hS.1 (by omega), fun q h1 h2 => (o4 q (by have := hS.1; omega)).trans (hS.2.1 q h1 h2), hS.2.2⟩
  have hXW4 : TxW tx s H4 := hXW.kept fun a ha hn => hS4.2.1 a ha fun h9 => hn (Nat.le_trans hxb h9)
  have hLL : RelL D cy b tx S0c Sm 0 s H4 := by
    refine ⟨⟨⟨hR.1.kept fun k q hk => ?_, hK, by omega⟩, S0c_wf, hxb, Nat.le_trans hxb (Nat.le_add_right _ _), hXW4⟩, ⟨⟨hM.1.1.kept fun k q hk => ?_, hK, by omega⟩, trivial, Nat.le_trans hxb (Nat.le_add_right _ _), Nat.le_trans hxb (Nat.le_add_right _ _), hXW4⟩, ⟨fun k q hk => ?_, hKo⟩⟩
    · obtain ⟨h9, rfl⟩ := gW_get hk
      exact hCk4 _ (by show b + k < b + 709; omega)
    · obtain ⟨h9, rfl⟩ := gW_get hk
      exact o4 _ (by show b + 709 + k < b + 721; omega)
    · match k, hk with
      | 0, hk => cases hk; exact e4
      | k + 1, hk => simp at hk
  refine lv_astore_n (lv' := [(3, .ref (b + 721)), (2, .ref (b + 709 + 0)), (1, .ref (b + 0)), (0, .ref b0)]) hx hb dL_law_19 rfl hl (by decide) rfl (fun ls hl => ?_)
  refine lv_iconst (v := nI (6 * 0)) hx hb dL_law_20 (by decide) ?_
  refine lv_istore (lv' := [(4, .int (nI (6 * 0))), (3, .ref (b + 721)), (2, .ref (b + 709 + 0)), (1, .ref (b + 0)), (0, .ref b0)]) hx hb dL_law_21 hl (by decide) rfl (fun ls hl => ?_)
  refine W.widen (k := 722 + 6 * 0) (n := 31009 + 36 * 0) (Nat.le_of_ble_eq_true rfl) (Nat.le_of_ble_eq_true rfl) ?_
  refine law_loop hl0 C1 hT hN hX hbl hb1 hL hstep (c0 := 722) (s0 := 31009) (Nat.le_of_ble_eq_true rfl) (Nat.le_of_ble_eq_true rfl) (fun H locs ls cells slots hc hs hS => ?_) L 0 (by omega) (Nat.zero_le _) hI hLL hS4 (lv_sub hl [4, 3, 2, 1, 0] rfl)
  refine va_forget (fun q hq => by rw [← hb1]; exact hS.2.2 q hq) ?_
  exact W.widen hc hs (lw_ret hx hb hr hlocks dL_law_2865)
end START
