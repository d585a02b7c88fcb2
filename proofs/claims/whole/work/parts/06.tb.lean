/-- the words of the tables that a method keeps -/
def TB : List Cond := lw_tbl.filter goodWord
def isN : Cond → Bool
  | .fieldLinkNest .. => true
  | .methodLinkNest .. => true
  | .castable .. => true
  | .declares .. => true
  | _ => false
def NB : List Cond := lw_tbl.filter isN
theorem TB_good : ∀ w ∈ TB, goodWord w = true := fun _ h => (List.mem_filter.mp h).2
theorem TB_in : ∀ w ∈ TB, w ∈ lw_tbl := fun _ h => (List.mem_filter.mp h).1
theorem nbT_1 : ∀ w ∈ tables_1_1, isN w = true → w ∈ NB := fun w h g => List.mem_filter.mpr ⟨List.mem_append_right _ (show w ∈ tables_1 from List.mem_append_left _ h), g⟩
theorem tbT_1 : ∀ w ∈ tables_1_1, goodWord w = true → w ∈ TB := fun w h g => List.mem_filter.mpr ⟨List.mem_append_right _ (show w ∈ tables_1 from List.mem_append_left _ h), g⟩
theorem nbT_2 : ∀ w ∈ tables_1_2, isN w = true → w ∈ NB := fun w h g => List.mem_filter.mpr ⟨List.mem_append_right _ (show w ∈ tables_1 from List.mem_append_right _ (List.mem_append_left _ h)), g⟩
theorem tbT_2 : ∀ w ∈ tables_1_2, goodWord w = true → w ∈ TB := fun w h g => List.mem_filter.mpr ⟨List.mem_append_right _ (show w ∈ tables_1 from List.mem_append_right _ (List.mem_append_left _ h)), g⟩
theorem nbT_3 : ∀ w ∈ tables_1_3, isN w = true → w ∈ NB := fun w h g => List.mem_filter.mpr ⟨List.mem_append_right _ (show w ∈ tables_1 from List.mem_append_right _ (List.mem_append_right _ (List.mem_append_left _ h))), g⟩
theorem tbT_3 : ∀ w ∈ tables_1_3, goodWord w = true → w ∈ TB := fun w h g => List.mem_filter.mpr ⟨List.mem_append_right _ (show w ∈ tables_1 from List.mem_append_right _ (List.mem_append_right _ (List.mem_append_left _ h))), g⟩
theorem nbT_4 : ∀ w ∈ tables_1_4, isN w = true → w ∈ NB := fun w h g => List.mem_filter.mpr ⟨List.mem_append_right _ (show w ∈ tables_1 from List.mem_append_right _ (List.mem_append_right _ (List.mem_append_right _ (List.mem_append_left _ h)))), g⟩
theorem tbT_4 : ∀ w ∈ tables_1_4, goodWord w = true → w ∈ TB := fun w h g => List.mem_filter.mpr ⟨List.mem_append_right _ (show w ∈ tables_1 from List.mem_append_right _ (List.mem_append_right _ (List.mem_append_right _ (List.mem_append_left _ h)))), g⟩
theorem nbT_5 : ∀ w ∈ tables_1_5, isN w = true → w ∈ NB := fun w h g => List.mem_filter.mpr ⟨List.mem_append_right _ (show w ∈ tables_1 from List.mem_append_right _ (List.mem_append_right _ (List.mem_append_right _ (List.mem_append_right _ (List.mem_append_left _ h))))), g⟩
theorem tbT_5 : ∀ w ∈ tables_1_5, goodWord w = true → w ∈ TB := fun w h g => List.mem_filter.mpr ⟨List.mem_append_right _ (show w ∈ tables_1 from List.mem_append_right _ (List.mem_append_right _ (List.mem_append_right _ (List.mem_append_right _ (List.mem_append_left _ h))))), g⟩
theorem nbT_6 : ∀ w ∈ tables_1_6, isN w = true → w ∈ NB := fun w h g => List.mem_filter.mpr ⟨List.mem_append_right _ (show w ∈ tables_1 from List.mem_append_right _ (List.mem_append_right _ (List.mem_append_right _ (List.mem_append_right _ (List.mem_append_right _ (List.mem_append_left _ h)))))), g⟩
theorem tbT_6 : ∀ w ∈ tables_1_6, goodWord w = true → w ∈ TB := fun w h g => List.mem_filter.mpr ⟨List.mem_append_right _ (show w ∈ tables_1 from List.mem_append_right _ (List.mem_append_right _ (List.mem_append_right _ (List.mem_append_right _ (List.mem_append_right _ (List.mem_append_left _ h)))))), g⟩
theorem nbT_7 : ∀ w ∈ tables_1_7, isN w = true → w ∈ NB := fun w h g => List.mem_filter.mpr ⟨List.mem_append_right _ (show w ∈ tables_1 from List.mem_append_right _ (List.mem_append_right _ (List.mem_append_right _ (List.mem_append_right _ (List.mem_append_right _ (List.mem_append_right _ (List.mem_append_left _ h))))))), g⟩
theorem tbT_7 : ∀ w ∈ tables_1_7, goodWord w = true → w ∈ TB := fun w h g => List.mem_filter.mpr ⟨List.mem_append_right _ (show w ∈ tables_1 from List.mem_append_right _ (List.mem_append_right _ (List.mem_append_right _ (List.mem_append_right _ (List.mem_append_right _ (List.mem_append_right _ (List.mem_append_left _ h))))))), g⟩
theorem nbT_8 : ∀ w ∈ tables_1_8, isN w = true → w ∈ NB := fun w h g => List.mem_filter.mpr ⟨List.mem_append_right _ (show w ∈ tables_1 from List.mem_append_right _ (List.mem_append_right _ (List.mem_append_right _ (List.mem_append_right _ (List.mem_append_right _ (List.mem_append_right _ (List.mem_append_right _ (List.mem_append_left _ h)))))))), g⟩
theorem tbT_8 : ∀ w ∈ tables_1_8, goodWord w = true → w ∈ TB := fun w h g => List.mem_filter.mpr ⟨List.mem_append_right _ (show w ∈ tables_1 from List.mem_append_right _ (List.mem_append_right _ (List.mem_append_right _ (List.mem_append_right _ (List.mem_append_right _ (List.mem_append_right _ (List.mem_append_right _ (List.mem_append_left _ h)))))))), g⟩
theorem nbT_9 : ∀ w ∈ tables_1_9, isN w = true → w ∈ NB := fun w h g => List.mem_filter.mpr ⟨List.mem_append_right _ (show w ∈ tables_1 from List.mem_append_right _ (List.mem_append_right _ (List.mem_append_right _ (List.mem_append_right _ (List.mem_append_right _ (List.mem_append_right _ (List.mem_append_right _ (List.mem_append_right _ (List.mem_append_left _ h))))))))), g⟩
theorem tbT_9 : ∀ w ∈ tables_1_9, goodWord w = true → w ∈ TB := fun w h g => List.mem_filter.mpr ⟨List.mem_append_right _ (show w ∈ tables_1 from List.mem_append_right _ (List.mem_append_right _ (List.mem_append_right _ (List.mem_append_right _ (List.mem_append_right _ (List.mem_append_right _ (List.mem_append_right _ (List.mem_append_right _ (List.mem_append_left _ h))))))))), g⟩
theorem nbT_10 : ∀ w ∈ tables_1_10, isN w = true → w ∈ NB := fun w h g => List.mem_filter.mpr ⟨List.mem_append_right _ (show w ∈ tables_1 from List.mem_append_right _ (List.mem_append_right _ (List.mem_append_right _ (List.mem_append_right _ (List.mem_append_right _ (List.mem_append_right _ (List.mem_append_right _ (List.mem_append_right _ (List.mem_append_right _ (h)))))))))), g⟩
theorem tbT_10 : ∀ w ∈ tables_1_10, goodWord w = true → w ∈ TB := fun w h g => List.mem_filter.mpr ⟨List.mem_append_right _ (show w ∈ tables_1 from List.mem_append_right _ (List.mem_append_right _ (List.mem_append_right _ (List.mem_append_right _ (List.mem_append_right _ (List.mem_append_right _ (List.mem_append_right _ (List.mem_append_right _ (List.mem_append_right _ (h)))))))))), g⟩
theorem tbP_1 : ∀ q ∈ lw_privs_1, Cond.selects q.1.cls q.1 q.1 ∈ TB := fun q h => List.mem_filter.mpr ⟨List.mem_append_left _ (List.mem_map.mpr ⟨q, (show q ∈ lw_privs from List.mem_append_left _ h), rfl⟩), rfl⟩
theorem tbP_2 : ∀ q ∈ lw_privs_2, Cond.selects q.1.cls q.1 q.1 ∈ TB := fun q h => List.mem_filter.mpr ⟨List.mem_append_left _ (List.mem_map.mpr ⟨q, (show q ∈ lw_privs from List.mem_append_right _ (List.mem_append_left _ h)), rfl⟩), rfl⟩
theorem tbP_3 : ∀ q ∈ lw_privs_3, Cond.selects q.1.cls q.1 q.1 ∈ TB := fun q h => List.mem_filter.mpr ⟨List.mem_append_left _ (List.mem_map.mpr ⟨q, (show q ∈ lw_privs from List.mem_append_right _ (List.mem_append_right _ (List.mem_append_left _ h))), rfl⟩), rfl⟩
theorem tbP_4 : ∀ q ∈ lw_privs_4, Cond.selects q.1.cls q.1 q.1 ∈ TB := fun q h => List.mem_filter.mpr ⟨List.mem_append_left _ (List.mem_map.mpr ⟨q, (show q ∈ lw_privs from List.mem_append_right _ (List.mem_append_right _ (List.mem_append_right _ (List.mem_append_left _ h)))), rfl⟩), rfl⟩
theorem tbP_5 : ∀ q ∈ lw_privs_5, Cond.selects q.1.cls q.1 q.1 ∈ TB := fun q h => List.mem_filter.mpr ⟨List.mem_append_left _ (List.mem_map.mpr ⟨q, (show q ∈ lw_privs from List.mem_append_right _ (List.mem_append_right _ (List.mem_append_right _ (List.mem_append_right _ (List.mem_append_left _ h))))), rfl⟩), rfl⟩
theorem tbP_6 : ∀ q ∈ lw_privs_6, Cond.selects q.1.cls q.1 q.1 ∈ TB := fun q h => List.mem_filter.mpr ⟨List.mem_append_left _ (List.mem_map.mpr ⟨q, (show q ∈ lw_privs from List.mem_append_right _ (List.mem_append_right _ (List.mem_append_right _ (List.mem_append_right _ (List.mem_append_right _ (List.mem_append_left _ h)))))), rfl⟩), rfl⟩
theorem tbP_7 : ∀ q ∈ lw_privs_7, Cond.selects q.1.cls q.1 q.1 ∈ TB := fun q h => List.mem_filter.mpr ⟨List.mem_append_left _ (List.mem_map.mpr ⟨q, (show q ∈ lw_privs from List.mem_append_right _ (List.mem_append_right _ (List.mem_append_right _ (List.mem_append_right _ (List.mem_append_right _ (List.mem_append_right _ (h))))))), rfl⟩), rfl⟩
theorem tbG {ws : List Cond} (h : ∀ w ∈ ws, w ∈ TB) : GoodIn TB ws := fun w hw => ⟨h w hw, good_of_word (TB_good w (h w hw))⟩
theorem tbC {w0 : Cond} (h : w0 ∈ TB) : ∀ w ∈ w0 :: TB, w ∈ TB := fun w hw => by
  rcases List.mem_cons.mp hw with rfl | hw
  · exact h
  · exact hw
theorem tbV {own C : String} {idx mL : Nat} {y : MethodName} {bs : ByteArray} {r : Option FieldType} (h1 : Cond.methodLink own idx y ∈ TB) (h2 : Cond.instanceMethod y ∈ TB ∧ Cond.selects C y y ∈ TB ∧ Cond.initialized C ∈ TB ∧ Cond.code y bs mL r ∈ TB) : GoodIn TB (wsV own idx C y (Cond.code y bs mL r :: TB)) := by
  refine tbG fun w hw => ?_
  unfold wsV at hw
  rcases List.mem_append.mp hw with h | h
  · rcases List.mem_cons.mp h with rfl | h
    · exact h1
    rcases List.mem_cons.mp h with rfl | h
    · exact h2.1
    rcases List.mem_cons.mp h with rfl | h
    · exact h2.2.1
    rcases List.mem_cons.mp h with rfl | h
    · exact h2.2.2.1
    · exact absurd h List.not_mem_nil
  · exact tbC h2.2.2.2 w h
theorem tbS {own : String} {idx mL : Nat} {y : MethodName} {bs : ByteArray} {r : Option FieldType} (h1 : Cond.methodLink own idx y ∈ TB) (h2 : Cond.static y ∈ TB ∧ Cond.initialized y.cls ∈ TB ∧ Cond.code y bs mL r ∈ TB) : GoodIn TB (va_wsS own idx y (Cond.code y bs mL r :: TB)) := by
  refine tbG fun w hw => ?_
  unfold va_wsS at hw
  rcases List.mem_append.mp hw with h | h
  · rcases List.mem_cons.mp h with rfl | h
    · exact h1
    rcases List.mem_cons.mp h with rfl | h
    · exact h2.1
    rcases List.mem_cons.mp h with rfl | h
    · exact h2.2.1
    · exact absurd h List.not_mem_nil
  · exact tbC h2.2.2 w h
theorem tbI {y : MethodName} {bs : ByteArray} {mL : Nat} {r : Option FieldType} (h : Cond.code y bs mL r ∈ TB) : GoodIn TB (Cond.code y bs mL r :: TB) := tbG (tbC h)
theorem tbl_X0_0 : u_lay RX0 TX0 0 ∈ TB := tbT_1 _ (List.mem_of_getElem? (i := 108) rfl) rfl
theorem tbl_X0_1 : u_lay RX0 TX0 1 ∈ TB := tbT_1 _ (List.mem_of_getElem? (i := 110) rfl) rfl
theorem tbl_X0_2 : u_lay RX0 TX0 2 ∈ TB := tbT_1 _ (List.mem_of_getElem? (i := 112) rfl) rfl
theorem tbl_X0_3 : u_lay RX0 TX0 3 ∈ TB := tbT_1 _ (List.mem_of_getElem? (i := 114) rfl) rfl
theorem tbs_wsX00 : ∀ w ∈ wsX00, w ∈ TB := by
  intro w hw
  obtain ⟨k, hk, rfl⟩ := List.mem_map.mp hw
  have hk := List.mem_range.mp hk
  rcases (show k = 0 ∨ k = 1 ∨ k = 2 ∨ k = 3 by omega) with rfl | rfl | rfl | rfl
  · exact tbl_X0_0
  · exact tbl_X0_1
  · exact tbl_X0_2
  · exact tbl_X0_3
theorem tbl_X1_0 : u_lay RX1 TX1 0 ∈ TB := tbT_2 _ (List.mem_of_getElem? (i := 18) rfl) rfl
theorem tbl_X1_1 : u_lay RX1 TX1 1 ∈ TB := tbT_2 _ (List.mem_of_getElem? (i := 20) rfl) rfl
theorem tbl_X1_2 : u_lay RX1 TX1 2 ∈ TB := tbT_2 _ (List.mem_of_getElem? (i := 22) rfl) rfl
theorem tbl_X1_3 : u_lay RX1 TX1 3 ∈ TB := tbT_2 _ (List.mem_of_getElem? (i := 24) rfl) rfl
theorem tbl_X1_4 : u_lay RX1 TX1 4 ∈ TB := tbT_2 _ (List.mem_of_getElem? (i := 26) rfl) rfl
theorem tbl_X1_5 : u_lay RX1 TX1 5 ∈ TB := tbT_2 _ (List.mem_of_getElem? (i := 28) rfl) rfl
theorem tbl_X1_6 : u_lay RX1 TX1 6 ∈ TB := tbT_2 _ (List.mem_of_getElem? (i := 30) rfl) rfl
theorem tbl_X1_7 : u_lay RX1 TX1 7 ∈ TB := tbT_2 _ (List.mem_of_getElem? (i := 32) rfl) rfl
theorem tbl_X1_8 : u_lay RX1 TX1 8 ∈ TB := tbT_2 _ (List.mem_of_getElem? (i := 34) rfl) rfl
theorem tbl_X1_9 : u_lay RX1 TX1 9 ∈ TB := tbT_2 _ (List.mem_of_getElem? (i := 36) rfl) rfl
theorem tbl_X1_10 : u_lay RX1 TX1 10 ∈ TB := tbT_2 _ (List.mem_of_getElem? (i := 38) rfl) rfl
theorem tbl_X1_11 : u_lay RX1 TX1 11 ∈ TB := tbT_2 _ (List.mem_of_getElem? (i := 40) rfl) rfl
theorem tbl_X1_12 : u_lay RX1 TX1 12 ∈ TB := tbT_2 _ (List.mem_of_getElem? (i := 42) rfl) rfl
theorem tbs_wsX10 : ∀ w ∈ wsX10, w ∈ TB := by
  intro w hw
  obtain ⟨k, hk, rfl⟩ := List.mem_map.mp hw
  have hk := List.mem_range.mp hk
  rcases (show k = 0 ∨ k = 1 ∨ k = 2 ∨ k = 3 ∨ k = 4 ∨ k = 5 ∨ k = 6 ∨ k = 7 ∨ k = 8 ∨ k = 9 ∨ k = 10 ∨ k = 11 ∨ k = 12 by omega) with rfl | rfl | rfl | rfl | rfl | rfl | rfl | rfl | rfl | rfl | rfl | rfl | rfl
  · exact tbl_X1_0
  · exact tbl_X1_1
  · exact tbl_X1_2
  · exact tbl_X1_3
  · exact tbl_X1_4
  · exact tbl_X1_5
  · exact tbl_X1_6
  · exact tbl_X1_7
  · exact tbl_X1_8
  · exact tbl_X1_9
  · exact tbl_X1_10
  · exact tbl_X1_11
  · exact tbl_X1_12
theorem tbl_X2_0 : u_lay RX2 TX2 0 ∈ TB := tbT_1 _ (List.mem_of_getElem? (i := 139) rfl) rfl
theorem tbl_X2_1 : u_lay RX2 TX2 1 ∈ TB := tbT_1 _ (List.mem_of_getElem? (i := 141) rfl) rfl
theorem tbl_X2_2 : u_lay RX2 TX2 2 ∈ TB := tbT_1 _ (List.mem_of_getElem? (i := 143) rfl) rfl
theorem tbs_wsX20 : ∀ w ∈ wsX20, w ∈ TB := by
  intro w hw
  obtain ⟨k, hk, rfl⟩ := List.mem_map.mp hw
  have hk := List.mem_range.mp hk
  rcases (show k = 0 ∨ k = 1 ∨ k = 2 by omega) with rfl | rfl | rfl
  · exact tbl_X2_0
  · exact tbl_X2_1
  · exact tbl_X2_2
theorem tbl_X3_0 : u_lay RX3 TX3 0 ∈ TB := tbT_1 _ (List.mem_of_getElem? (i := 77) rfl) rfl
theorem tbl_X3_1 : u_lay RX3 TX3 1 ∈ TB := tbT_1 _ (List.mem_of_getElem? (i := 79) rfl) rfl
theorem tbl_X3_2 : u_lay RX3 TX3 2 ∈ TB := tbT_1 _ (List.mem_of_getElem? (i := 81) rfl) rfl
theorem tbl_X3_3 : u_lay RX3 TX3 3 ∈ TB := tbT_1 _ (List.mem_of_getElem? (i := 83) rfl) rfl
theorem tbl_X3_4 : u_lay RX3 TX3 4 ∈ TB := tbT_1 _ (List.mem_of_getElem? (i := 85) rfl) rfl
theorem tbl_X3_5 : u_lay RX3 TX3 5 ∈ TB := tbT_1 _ (List.mem_of_getElem? (i := 87) rfl) rfl
theorem tbl_X3_6 : u_lay RX3 TX3 6 ∈ TB := tbT_1 _ (List.mem_of_getElem? (i := 89) rfl) rfl
theorem tbl_X3_7 : u_lay RX3 TX3 7 ∈ TB := tbT_1 _ (List.mem_of_getElem? (i := 91) rfl) rfl
theorem tbs_wsX30 : ∀ w ∈ wsX30, w ∈ TB := by
  intro w hw
  obtain ⟨k, hk, rfl⟩ := List.mem_map.mp hw
  have hk := List.mem_range.mp hk
  rcases (show k = 0 ∨ k = 1 ∨ k = 2 ∨ k = 3 ∨ k = 4 ∨ k = 5 ∨ k = 6 ∨ k = 7 by omega) with rfl | rfl | rfl | rfl | rfl | rfl | rfl | rfl
  · exact tbl_X3_0
  · exact tbl_X3_1
  · exact tbl_X3_2
  · exact tbl_X3_3
  · exact tbl_X3_4
  · exact tbl_X3_5
  · exact tbl_X3_6
  · exact tbl_X3_7
theorem tbl_X4_0 : u_lay RX4 TX4 0 ∈ TB := tbT_2 _ (List.mem_of_getElem? (i := 109) rfl) rfl
theorem tbl_X4_1 : u_lay RX4 TX4 1 ∈ TB := tbT_2 _ (List.mem_of_getElem? (i := 111) rfl) rfl
theorem tbl_X4_2 : u_lay RX4 TX4 2 ∈ TB := tbT_2 _ (List.mem_of_getElem? (i := 113) rfl) rfl
theorem tbl_X4_3 : u_lay RX4 TX4 3 ∈ TB := tbT_2 _ (List.mem_of_getElem? (i := 115) rfl) rfl
theorem tbl_X4_4 : u_lay RX4 TX4 4 ∈ TB := tbT_2 _ (List.mem_of_getElem? (i := 117) rfl) rfl
theorem tbl_X4_5 : u_lay RX4 TX4 5 ∈ TB := tbT_2 _ (List.mem_of_getElem? (i := 119) rfl) rfl
theorem tbl_X4_6 : u_lay RX4 TX4 6 ∈ TB := tbT_2 _ (List.mem_of_getElem? (i := 121) rfl) rfl
theorem tbl_X4_7 : u_lay RX4 TX4 7 ∈ TB := tbT_2 _ (List.mem_of_getElem? (i := 123) rfl) rfl
theorem tbs_wsX40 : ∀ w ∈ wsX40, w ∈ TB := by
  intro w hw
  obtain ⟨k, hk, rfl⟩ := List.mem_map.mp hw
  have hk := List.mem_range.mp hk
  rcases (show k = 0 ∨ k = 1 ∨ k = 2 ∨ k = 3 ∨ k = 4 ∨ k = 5 ∨ k = 6 ∨ k = 7 by omega) with rfl | rfl | rfl | rfl | rfl | rfl | rfl | rfl
  · exact tbl_X4_0
  · exact tbl_X4_1
  · exact tbl_X4_2
  · exact tbl_X4_3
  · exact tbl_X4_4
  · exact tbl_X4_5
  · exact tbl_X4_6
  · exact tbl_X4_7
theorem tbl_X5_0 : u_lay RX5 TX5 0 ∈ TB := tbT_2 _ (List.mem_of_getElem? (i := 68) rfl) rfl
theorem tbl_X5_1 : u_lay RX5 TX5 1 ∈ TB := tbT_2 _ (List.mem_of_getElem? (i := 70) rfl) rfl
theorem tbl_X5_2 : u_lay RX5 TX5 2 ∈ TB := tbT_2 _ (List.mem_of_getElem? (i := 72) rfl) rfl
theorem tbl_X5_3 : u_lay RX5 TX5 3 ∈ TB := tbT_2 _ (List.mem_of_getElem? (i := 74) rfl) rfl
theorem tbl_X5_4 : u_lay RX5 TX5 4 ∈ TB := tbT_2 _ (List.mem_of_getElem? (i := 76) rfl) rfl
theorem tbs_wsX50 : ∀ w ∈ wsX50, w ∈ TB := by
  intro w hw
  obtain ⟨k, hk, rfl⟩ := List.mem_map.mp hw
  have hk := List.mem_range.mp hk
  rcases (show k = 0 ∨ k = 1 ∨ k = 2 ∨ k = 3 ∨ k = 4 by omega) with rfl | rfl | rfl | rfl | rfl
  · exact tbl_X5_0
  · exact tbl_X5_1
  · exact tbl_X5_2
  · exact tbl_X5_3
  · exact tbl_X5_4
theorem tbl_X6_0 : u_lay RX6 TX6 0 ∈ TB := tbT_2 _ (List.mem_of_getElem? (i := 176) rfl) rfl
theorem tbl_X6_1 : u_lay RX6 TX6 1 ∈ TB := tbT_2 _ (List.mem_of_getElem? (i := 178) rfl) rfl
theorem tbl_X6_2 : u_lay RX6 TX6 2 ∈ TB := tbT_2 _ (List.mem_of_getElem? (i := 180) rfl) rfl
theorem tbl_X6_3 : u_lay RX6 TX6 3 ∈ TB := tbT_2 _ (List.mem_of_getElem? (i := 182) rfl) rfl
theorem tbl_X6_4 : u_lay RX6 TX6 4 ∈ TB := tbT_2 _ (List.mem_of_getElem? (i := 184) rfl) rfl
theorem tbl_X6_5 : u_lay RX6 TX6 5 ∈ TB := tbT_2 _ (List.mem_of_getElem? (i := 186) rfl) rfl
theorem tbl_X6_6 : u_lay RX6 TX6 6 ∈ TB := tbT_2 _ (List.mem_of_getElem? (i := 188) rfl) rfl
theorem tbl_X6_7 : u_lay RX6 TX6 7 ∈ TB := tbT_2 _ (List.mem_of_getElem? (i := 190) rfl) rfl
theorem tbl_X6_8 : u_lay RX6 TX6 8 ∈ TB := tbT_2 _ (List.mem_of_getElem? (i := 192) rfl) rfl
theorem tbl_X6_9 : u_lay RX6 TX6 9 ∈ TB := tbT_2 _ (List.mem_of_getElem? (i := 194) rfl) rfl
theorem tbl_X6_10 : u_lay RX6 TX6 10 ∈ TB := tbT_2 _ (List.mem_of_getElem? (i := 196) rfl) rfl
theorem tbl_X6_11 : u_lay RX6 TX6 11 ∈ TB := tbT_2 _ (List.mem_of_getElem? (i := 198) rfl) rfl
theorem tbl_X6_12 : u_lay RX6 TX6 12 ∈ TB := tbT_2 _ (List.mem_of_getElem? (i := 200) rfl) rfl
theorem tbl_X6_13 : u_lay RX6 TX6 13 ∈ TB := tbT_2 _ (List.mem_of_getElem? (i := 202) rfl) rfl
theorem tbl_X6_14 : u_lay RX6 TX6 14 ∈ TB := tbT_2 _ (List.mem_of_getElem? (i := 204) rfl) rfl
theorem tbl_X6_15 : u_lay RX6 TX6 15 ∈ TB := tbT_2 _ (List.mem_of_getElem? (i := 206) rfl) rfl
theorem tbs_wsX60 : ∀ w ∈ wsX60, w ∈ TB := by
  intro w hw
  obtain ⟨k, hk, rfl⟩ := List.mem_map.mp hw
  have hk := List.mem_range.mp hk
  rcases (show k = 0 ∨ k = 1 ∨ k = 2 ∨ k = 3 ∨ k = 4 ∨ k = 5 ∨ k = 6 ∨ k = 7 ∨ k = 8 ∨ k = 9 ∨ k = 10 ∨ k = 11 ∨ k = 12 ∨ k = 13 ∨ k = 14 ∨ k = 15 by omega) with rfl | rfl | rfl | rfl | rfl | rfl | rfl | rfl | rfl | rfl | rfl | rfl | rfl | rfl | rfl | rfl
  · exact tbl_X6_0
  · exact tbl_X6_1
  · exact tbl_X6_2
  · exact tbl_X6_3
  · exact tbl_X6_4
  · exact tbl_X6_5
  · exact tbl_X6_6
  · exact tbl_X6_7
  · exact tbl_X6_8
  · exact tbl_X6_9
  · exact tbl_X6_10
  · exact tbl_X6_11
  · exact tbl_X6_12
  · exact tbl_X6_13
  · exact tbl_X6_14
  · exact tbl_X6_15
theorem tbl_X8_0 : u_lay RX8 TX8 0 ∈ TB := tbT_1 _ (List.mem_of_getElem? (i := 49) rfl) rfl
theorem tbl_X8_1 : u_lay RX8 TX8 1 ∈ TB := tbT_1 _ (List.mem_of_getElem? (i := 51) rfl) rfl
theorem tbl_X8_2 : u_lay RX8 TX8 2 ∈ TB := tbT_1 _ (List.mem_of_getElem? (i := 53) rfl) rfl
theorem tbl_X8_3 : u_lay RX8 TX8 3 ∈ TB := tbT_1 _ (List.mem_of_getElem? (i := 55) rfl) rfl
theorem tbl_X8_4 : u_lay RX8 TX8 4 ∈ TB := tbT_1 _ (List.mem_of_getElem? (i := 57) rfl) rfl
theorem tbs_wsX80 : ∀ w ∈ wsX80, w ∈ TB := by
  intro w hw
  obtain ⟨k, hk, rfl⟩ := List.mem_map.mp hw
  have hk := List.mem_range.mp hk
  rcases (show k = 0 ∨ k = 1 ∨ k = 2 ∨ k = 3 ∨ k = 4 by omega) with rfl | rfl | rfl | rfl | rfl
  · exact tbl_X8_0
  · exact tbl_X8_1
  · exact tbl_X8_2
  · exact tbl_X8_3
  · exact tbl_X8_4
theorem tbl_X9_0 : u_lay RX9 TX9 0 ∈ TB := tbT_1 _ (List.mem_of_getElem? (i := 192) rfl) rfl
theorem tbl_X9_1 : u_lay RX9 TX9 1 ∈ TB := tbT_1 _ (List.mem_of_getElem? (i := 194) rfl) rfl
theorem tbl_X9_2 : u_lay RX9 TX9 2 ∈ TB := tbT_1 _ (List.mem_of_getElem? (i := 196) rfl) rfl
theorem tbl_X9_3 : u_lay RX9 TX9 3 ∈ TB := tbT_1 _ (List.mem_of_getElem? (i := 198) rfl) rfl
theorem tbl_X9_4 : u_lay RX9 TX9 4 ∈ TB := tbT_1 _ (List.mem_of_getElem? (i := 200) rfl) rfl
theorem tbl_X9_5 : u_lay RX9 TX9 5 ∈ TB := tbT_1 _ (List.mem_of_getElem? (i := 202) rfl) rfl
theorem tbl_X9_6 : u_lay RX9 TX9 6 ∈ TB := tbT_1 _ (List.mem_of_getElem? (i := 204) rfl) rfl
theorem tbl_X9_7 : u_lay RX9 TX9 7 ∈ TB := tbT_1 _ (List.mem_of_getElem? (i := 206) rfl) rfl
theorem tbs_wsX90 : ∀ w ∈ wsX90, w ∈ TB := by
  intro w hw
  obtain ⟨k, hk, rfl⟩ := List.mem_map.mp hw
  have hk := List.mem_range.mp hk
  rcases (show k = 0 ∨ k = 1 ∨ k = 2 ∨ k = 3 ∨ k = 4 ∨ k = 5 ∨ k = 6 ∨ k = 7 by omega) with rfl | rfl | rfl | rfl | rfl | rfl | rfl | rfl
  · exact tbl_X9_0
  · exact tbl_X9_1
  · exact tbl_X9_2
  · exact tbl_X9_3
  · exact tbl_X9_4
  · exact tbl_X9_5
  · exact tbl_X9_6
  · exact tbl_X9_7
theorem tbl_X11_0 : u_lay RX11 TX11 0 ∈ TB := tbT_2 _ (List.mem_of_getElem? (i := 217) rfl) rfl
theorem tbl_X11_1 : u_lay RX11 TX11 1 ∈ TB := tbT_2 _ (List.mem_of_getElem? (i := 219) rfl) rfl
theorem tbl_X11_2 : u_lay RX11 TX11 2 ∈ TB := tbT_2 _ (List.mem_of_getElem? (i := 221) rfl) rfl
theorem tbl_X11_3 : u_lay RX11 TX11 3 ∈ TB := tbT_2 _ (List.mem_of_getElem? (i := 223) rfl) rfl
theorem tbl_X11_4 : u_lay RX11 TX11 4 ∈ TB := tbT_2 _ (List.mem_of_getElem? (i := 225) rfl) rfl
theorem tbl_X11_5 : u_lay RX11 TX11 5 ∈ TB := tbT_2 _ (List.mem_of_getElem? (i := 227) rfl) rfl
theorem tbl_X11_6 : u_lay RX11 TX11 6 ∈ TB := tbT_2 _ (List.mem_of_getElem? (i := 229) rfl) rfl
theorem tbl_X11_7 : u_lay RX11 TX11 7 ∈ TB := tbT_2 _ (List.mem_of_getElem? (i := 231) rfl) rfl
theorem tbs_wsX110 : ∀ w ∈ wsX110, w ∈ TB := by
  intro w hw
  obtain ⟨k, hk, rfl⟩ := List.mem_map.mp hw
  have hk := List.mem_range.mp hk
  rcases (show k = 0 ∨ k = 1 ∨ k = 2 ∨ k = 3 ∨ k = 4 ∨ k = 5 ∨ k = 6 ∨ k = 7 by omega) with rfl | rfl | rfl | rfl | rfl | rfl | rfl | rfl
  · exact tbl_X11_0
  · exact tbl_X11_1
  · exact tbl_X11_2
  · exact tbl_X11_3
  · exact tbl_X11_4
  · exact tbl_X11_5
  · exact tbl_X11_6
  · exact tbl_X11_7
theorem tbl_X12_0 : u_lay RX12 TX12 0 ∈ TB := tbT_7 _ (List.mem_of_getElem? (i := 96) rfl) rfl
theorem tbl_X12_1 : u_lay RX12 TX12 1 ∈ TB := tbT_7 _ (List.mem_of_getElem? (i := 98) rfl) rfl
theorem tbl_X12_2 : u_lay RX12 TX12 2 ∈ TB := tbT_7 _ (List.mem_of_getElem? (i := 100) rfl) rfl
theorem tbl_X12_3 : u_lay RX12 TX12 3 ∈ TB := tbT_7 _ (List.mem_of_getElem? (i := 102) rfl) rfl
theorem tbl_X12_4 : u_lay RX12 TX12 4 ∈ TB := tbT_7 _ (List.mem_of_getElem? (i := 104) rfl) rfl
theorem tbl_X12_5 : u_lay RX12 TX12 5 ∈ TB := tbT_7 _ (List.mem_of_getElem? (i := 106) rfl) rfl
theorem tbl_X12_6 : u_lay RX12 TX12 6 ∈ TB := tbT_7 _ (List.mem_of_getElem? (i := 108) rfl) rfl
theorem tbl_X12_7 : u_lay RX12 TX12 7 ∈ TB := tbT_7 _ (List.mem_of_getElem? (i := 110) rfl) rfl
theorem tbl_X12_8 : u_lay RX12 TX12 8 ∈ TB := tbT_7 _ (List.mem_of_getElem? (i := 112) rfl) rfl
theorem tbl_X12_9 : u_lay RX12 TX12 9 ∈ TB := tbT_7 _ (List.mem_of_getElem? (i := 114) rfl) rfl
theorem tbl_X12_10 : u_lay RX12 TX12 10 ∈ TB := tbT_7 _ (List.mem_of_getElem? (i := 116) rfl) rfl
theorem tbl_X12_11 : u_lay RX12 TX12 11 ∈ TB := tbT_7 _ (List.mem_of_getElem? (i := 118) rfl) rfl
theorem tbl_X12_12 : u_lay RX12 TX12 12 ∈ TB := tbT_7 _ (List.mem_of_getElem? (i := 120) rfl) rfl
theorem tbl_X12_13 : u_lay RX12 TX12 13 ∈ TB := tbT_7 _ (List.mem_of_getElem? (i := 122) rfl) rfl
theorem tbl_X12_14 : u_lay RX12 TX12 14 ∈ TB := tbT_7 _ (List.mem_of_getElem? (i := 124) rfl) rfl
theorem tbl_X12_15 : u_lay RX12 TX12 15 ∈ TB := tbT_7 _ (List.mem_of_getElem? (i := 126) rfl) rfl
theorem tbl_X12_16 : u_lay RX12 TX12 16 ∈ TB := tbT_7 _ (List.mem_of_getElem? (i := 128) rfl) rfl
theorem tbl_X12_17 : u_lay RX12 TX12 17 ∈ TB := tbT_7 _ (List.mem_of_getElem? (i := 130) rfl) rfl
theorem tbl_X12_18 : u_lay RX12 TX12 18 ∈ TB := tbT_7 _ (List.mem_of_getElem? (i := 132) rfl) rfl
theorem tbs_wsX120 : ∀ w ∈ wsX120, w ∈ TB := by
  intro w hw
  obtain ⟨k, hk, rfl⟩ := List.mem_map.mp hw
  have hk := List.mem_range.mp hk
  rcases (show k = 0 ∨ k = 1 ∨ k = 2 ∨ k = 3 ∨ k = 4 ∨ k = 5 ∨ k = 6 ∨ k = 7 ∨ k = 8 ∨ k = 9 ∨ k = 10 ∨ k = 11 ∨ k = 12 ∨ k = 13 ∨ k = 14 ∨ k = 15 ∨ k = 16 ∨ k = 17 ∨ k = 18 by omega) with rfl | rfl | rfl | rfl | rfl | rfl | rfl | rfl | rfl | rfl | rfl | rfl | rfl | rfl | rfl | rfl | rfl | rfl | rfl
  · exact tbl_X12_0
  · exact tbl_X12_1
  · exact tbl_X12_2
  · exact tbl_X12_3
  · exact tbl_X12_4
  · exact tbl_X12_5
  · exact tbl_X12_6
  · exact tbl_X12_7
  · exact tbl_X12_8
  · exact tbl_X12_9
  · exact tbl_X12_10
  · exact tbl_X12_11
  · exact tbl_X12_12
  · exact tbl_X12_13
  · exact tbl_X12_14
  · exact tbl_X12_15
  · exact tbl_X12_16
  · exact tbl_X12_17
  · exact tbl_X12_18
