section PU81
/-! ONE STEP OF THE LAW, and its end -/
theorem law_step (t : Nat) (Sc Sm : sSt) (o : Int64) (w a1 a2 a3 a4 a5 : Int32) (ht : t < 512) (hI : Inv t Sc Sm) : CSX w a1 a2 a3 a4 a5 Sc Sm o (fun S1 S2 _ => Inv (t + 1) S1 S2) := by
  unfold CSX
  refine ⟨fun _ => cs_0 hI, fun _ => cs_1 hI, fun _ => cs_2 ht hI, fun _ => cs_3 hI, fun _ => cs_4 hI, fun _ => cs_5 hI, fun _ => cs_6 hI, fun _ => cs_7 hI, fun _ => cs_8 hI, fun _ => cs_9 hI, fun _ => cs_10 hI, fun _ => cs_11 hI, fun _ => cs_12 hI, fun _ => cs_13 hI, fun _ => cs_14 hI, fun _ => cs_15 hI, fun _ => cs_16 hI, fun _ => cs_17 hI, fun _ => cs_18 ht hI, fun _ => cs_19 hI, fun _ => cs_20 ht hI, fun _ => cs_21 ht hI, fun _ => cs_22 hI, fun _ => cs_23 hI, fun _ => cs_24 hI, fun _ => cs_25 hI, fun _ => cs_26 hI, fun _ => cs_27 hI, fun _ => cs_28 hI, fun _ => cs_29 hI, fun _ => cs_30 hI, fun _ => cs_31 hI, fun _ => cs_32 hI, fun _ => cs_33 ht hI, fun _ => cs_34 hI, fun _ => cs_35 hI, fun _ => cs_36 hI, fun _ => cs_37 hI, fun _ => cs_38 hI, fun _ => cs_39 hI, fun _ => cs_40 hI, fun _ => cs_41 hI, fun _ => cs_42 hI, fun _ => cs_43 hI, fun _ => cs_44 hI, fun _ => ?_⟩
  obtain ⟨l, sp, π, ns, np, cm, nl, hR, hB, hc⟩ := hI
  exact Inv.mk (hR.keep (Nat.le_succ t) K2.rfl MK.rfl hR.2.2.2.1) hB (Nat.le_trans hc (Nat.mul_le_mul_left _ (Nat.le_succ t)))
theorem whole_start {p : Program} {e : Env} {s : State} {m : MethodId} {below : List Frame} {meth : Method} {c : Code} (l : Launch) (hflags : l.flags = flags0) {b L : Nat} {xs : Nat → Int32} (hL : L ≤ 3072) (C0 : lw_At p s m meth c b L xs) : W p l e room_1 s m #[Value.ref b] below meth c s.heap [] 0 0 (lw_Z below #[Value.ref b] s) (entryFrame m ([Value.ref b] : List Value).toArray 7) :=
  law_start l (by
    unfold Launch.stackTraces
    rw [hflags]; decide) hL C0 (Inv := Inv) s0_inv law_step
end PU81
