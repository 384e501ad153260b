theorem wC_J13_bitCount_95d88 : Cond.code yJ13_bitCount_95d88 cJ13_bitCount_95d88 2 (some .int) ∈ TT := List.mem_filter.mpr ⟨List.mem_append_right _ (List.mem_of_getElem? (i := 452) (by decide +kernel)), rfl⟩
theorem wC_J7_fill_53178 : Cond.code yJ7_fill_53178 cJ7_fill_53178 4 none ∈ TT := List.mem_filter.mpr ⟨List.mem_append_right _ (List.mem_of_getElem? (i := 211) (by decide +kernel)), rfl⟩
theorem wC_X1_across : Cond.code yX1_across cX1_across 10 (some .int) ∈ TT := List.mem_filter.mpr ⟨List.mem_append_right _ (List.mem_of_getElem? (i := 535) (by decide +kernel)), rfl⟩
theorem wC_X1_at : Cond.code yX1_at cX1_at 2 (some .long) ∈ TT := List.mem_filter.mpr ⟨List.mem_append_right _ (List.mem_of_getElem? (i := 449) (by decide +kernel)), rfl⟩
theorem wC_X1_lookAround : Cond.code yX1_lookAround cX1_lookAround 4 none ∈ TT := List.mem_filter.mpr ⟨List.mem_append_right _ (List.mem_of_getElem? (i := 530) (by decide +kernel)), rfl⟩
theorem wC_X1_placeOf : Cond.code yX1_placeOf cX1_placeOf 7 (some .int) ∈ TT := List.mem_filter.mpr ⟨List.mem_append_right _ (List.mem_of_getElem? (i := 540) (by decide +kernel)), rfl⟩
theorem wC_X1_reach : Cond.code yX1_reach cX1_reach 3 none ∈ TT := List.mem_filter.mpr ⟨List.mem_append_right _ (List.mem_of_getElem? (i := 526) (by decide +kernel)), rfl⟩
theorem wC_X1_setOut : Cond.code yX1_setOut cX1_setOut 2 none ∈ TT := List.mem_filter.mpr ⟨List.mem_append_right _ (List.mem_of_getElem? (i := 521) (by decide +kernel)), rfl⟩
theorem wF_X1_15 : Cond.fieldLink RX1 15 (TX1 1).1 (TX1 1).2.1 (TX1 1).2.2.1 ∈ TT := List.mem_filter.mpr ⟨List.mem_append_right _ (List.mem_of_getElem? (i := 95) (by decide +kernel)), rfl⟩
theorem wF_X1_18 : Cond.fieldLink RX1 18 (TX1 2).1 (TX1 2).2.1 (TX1 2).2.2.1 ∈ TT := List.mem_filter.mpr ⟨List.mem_append_right _ (List.mem_of_getElem? (i := 96) (by decide +kernel)), rfl⟩
theorem wF_X1_21 : Cond.fieldLink RX1 21 (TX1 3).1 (TX1 3).2.1 (TX1 3).2.2.1 ∈ TT := List.mem_filter.mpr ⟨List.mem_append_right _ (List.mem_of_getElem? (i := 97) (by decide +kernel)), rfl⟩
theorem wF_X1_25 : Cond.fieldLink RX1 25 (TX1 4).1 (TX1 4).2.1 (TX1 4).2.2.1 ∈ TT := List.mem_filter.mpr ⟨List.mem_append_right _ (List.mem_of_getElem? (i := 98) (by decide +kernel)), rfl⟩
theorem wF_X1_28 : Cond.fieldLink RX1 28 (TX1 9).1 (TX1 9).2.1 (TX1 9).2.2.1 ∈ TT := List.mem_filter.mpr ⟨List.mem_append_right _ (List.mem_of_getElem? (i := 103) (by decide +kernel)), rfl⟩
theorem wF_X1_34 : Cond.fieldLink RX1 34 (TX1 5).1 (TX1 5).2.1 (TX1 5).2.2.1 ∈ TT := List.mem_filter.mpr ⟨List.mem_append_right _ (List.mem_of_getElem? (i := 99) (by decide +kernel)), rfl⟩
theorem wF_X1_41 : Cond.fieldLink RX1 41 (TX1 6).1 (TX1 6).2.1 (TX1 6).2.2.1 ∈ TT := List.mem_filter.mpr ⟨List.mem_append_right _ (List.mem_of_getElem? (i := 100) (by decide +kernel)), rfl⟩
theorem wF_X1_45 : Cond.fieldLink RX1 45 (TX1 7).1 (TX1 7).2.1 (TX1 7).2.2.1 ∈ TT := List.mem_filter.mpr ⟨List.mem_append_right _ (List.mem_of_getElem? (i := 101) (by decide +kernel)), rfl⟩
theorem wF_X1_48 : Cond.fieldLink RX1 48 (TX1 8).1 (TX1 8).2.1 (TX1 8).2.2.1 ∈ TT := List.mem_filter.mpr ⟨List.mem_append_right _ (List.mem_of_getElem? (i := 102) (by decide +kernel)), rfl⟩
theorem wF_X1_68 : Cond.fieldLink RX1 68 (TX1 10).1 (TX1 10).2.1 (TX1 10).2.2.1 ∈ TT := List.mem_filter.mpr ⟨List.mem_append_right _ (List.mem_of_getElem? (i := 104) (by decide +kernel)), rfl⟩
theorem wF_X1_71 : Cond.fieldLink RX1 71 (TX1 11).1 (TX1 11).2.1 (TX1 11).2.2.1 ∈ TT := List.mem_filter.mpr ⟨List.mem_append_right _ (List.mem_of_getElem? (i := 105) (by decide +kernel)), rfl⟩
theorem wF_X1_9 : Cond.fieldLink RX1 9 (TX1 0).1 (TX1 0).2.1 (TX1 0).2.2.1 ∈ TT := List.mem_filter.mpr ⟨List.mem_append_right _ (List.mem_of_getElem? (i := 94) (by decide +kernel)), rfl⟩
theorem wI_X1_across : Cond.instanceMethod yX1_across ∈ TT := List.mem_filter.mpr ⟨List.mem_append_right _ (List.mem_of_getElem? (i := 534) (by decide +kernel)), rfl⟩
theorem wI_X1_at : Cond.instanceMethod yX1_at ∈ TT := List.mem_filter.mpr ⟨List.mem_append_right _ (List.mem_of_getElem? (i := 447) (by decide +kernel)), rfl⟩
theorem wI_X1_lookAround : Cond.instanceMethod yX1_lookAround ∈ TT := List.mem_filter.mpr ⟨List.mem_append_right _ (List.mem_of_getElem? (i := 529) (by decide +kernel)), rfl⟩
theorem wI_X1_placeOf : Cond.instanceMethod yX1_placeOf ∈ TT := List.mem_filter.mpr ⟨List.mem_append_right _ (List.mem_of_getElem? (i := 539) (by decide +kernel)), rfl⟩
theorem wI_X1_reach : Cond.instanceMethod yX1_reach ∈ TT := List.mem_filter.mpr ⟨List.mem_append_right _ (List.mem_of_getElem? (i := 525) (by decide +kernel)), rfl⟩
theorem wI_X1_setOut : Cond.instanceMethod yX1_setOut ∈ TT := List.mem_filter.mpr ⟨List.mem_append_right _ (List.mem_of_getElem? (i := 520) (by decide +kernel)), rfl⟩
theorem wM_X1_51 : Cond.methodLink RX1 51 yX1_at ∈ TT := List.mem_filter.mpr ⟨List.mem_append_right _ (List.mem_of_getElem? (i := 531) (by decide +kernel)), rfl⟩
theorem wM_X1_54 : Cond.methodLink RX1 54 yJ13_bitCount_95d88 ∈ TT := List.mem_filter.mpr ⟨List.mem_append_right _ (List.mem_of_getElem? (i := 536) (by decide +kernel)), rfl⟩
theorem wM_X1_60 : Cond.methodLink RX1 60 yX1_across ∈ TT := List.mem_filter.mpr ⟨List.mem_append_right _ (List.mem_of_getElem? (i := 532) (by decide +kernel)), rfl⟩
theorem wM_X1_64 : Cond.methodLink RX1 64 yX1_setOut ∈ TT := List.mem_filter.mpr ⟨List.mem_append_right _ (List.mem_of_getElem? (i := 518) (by decide +kernel)), rfl⟩
theorem wM_X1_74 : Cond.methodLink RX1 74 yX1_lookAround ∈ TT := List.mem_filter.mpr ⟨List.mem_append_right _ (List.mem_of_getElem? (i := 527) (by decide +kernel)), rfl⟩
theorem wM_X1_77 : Cond.methodLink RX1 77 yJ7_fill_53178 ∈ TT := List.mem_filter.mpr ⟨List.mem_append_right _ (List.mem_of_getElem? (i := 522) (by decide +kernel)), rfl⟩
theorem wM_X1_83 : Cond.methodLink RX1 83 yX1_reach ∈ TT := List.mem_filter.mpr ⟨List.mem_append_right _ (List.mem_of_getElem? (i := 523) (by decide +kernel)), rfl⟩
theorem wM_X1_87 : Cond.methodLink RX1 87 yX1_placeOf ∈ TT := List.mem_filter.mpr ⟨List.mem_append_right _ (List.mem_of_getElem? (i := 537) (by decide +kernel)), rfl⟩
theorem wS_X1_across : Cond.selects yX1_across.cls yX1_across yX1_across ∈ TT := List.mem_filter.mpr ⟨List.mem_append_left _ (List.mem_of_getElem? (i := 28) (by decide +kernel)), rfl⟩
theorem wS_X1_at : Cond.selects yX1_at.cls yX1_at yX1_at ∈ TT := List.mem_filter.mpr ⟨List.mem_append_right _ (List.mem_of_getElem? (i := 448) (by decide +kernel)), rfl⟩
theorem wS_X1_lookAround : Cond.selects yX1_lookAround.cls yX1_lookAround yX1_lookAround ∈ TT := List.mem_filter.mpr ⟨List.mem_append_left _ (List.mem_of_getElem? (i := 27) (by decide +kernel)), rfl⟩
theorem wS_X1_placeOf : Cond.selects yX1_placeOf.cls yX1_placeOf yX1_placeOf ∈ TT := List.mem_filter.mpr ⟨List.mem_append_left _ (List.mem_of_getElem? (i := 29) (by decide +kernel)), rfl⟩
theorem wS_X1_reach : Cond.selects yX1_reach.cls yX1_reach yX1_reach ∈ TT := List.mem_filter.mpr ⟨List.mem_append_left _ (List.mem_of_getElem? (i := 26) (by decide +kernel)), rfl⟩
theorem wS_X1_setOut : Cond.selects yX1_setOut.cls yX1_setOut yX1_setOut ∈ TT := List.mem_filter.mpr ⟨List.mem_append_left _ (List.mem_of_getElem? (i := 25) (by decide +kernel)), rfl⟩
theorem wT_J13_bitCount_95d88 : Cond.static yJ13_bitCount_95d88 ∈ TT := List.mem_filter.mpr ⟨List.mem_append_right _ (List.mem_of_getElem? (i := 451) (by decide +kernel)), rfl⟩
theorem wT_J7_fill_53178 : Cond.static yJ7_fill_53178 ∈ TT := List.mem_filter.mpr ⟨List.mem_append_right _ (List.mem_of_getElem? (i := 210) (by decide +kernel)), rfl⟩
theorem wZ_J13 : Cond.initialized RJ13 ∈ TT := List.mem_filter.mpr ⟨List.mem_append_right _ (List.mem_of_getElem? (i := 12) (by decide +kernel)), rfl⟩
theorem wZ_J7 : Cond.initialized RJ7 ∈ TT := List.mem_filter.mpr ⟨List.mem_append_right _ (List.mem_of_getElem? (i := 9) (by decide +kernel)), rfl⟩
theorem wZ_X1 : Cond.initialized RX1 ∈ TT := List.mem_filter.mpr ⟨List.mem_append_right _ (List.mem_of_getElem? (i := 4) (by decide +kernel)), rfl⟩
theorem dX1_placeOf_0 : decode cX1_placeOf 0 = .ok (.iconst 0, 1) := by decide +kernel
theorem dX1_placeOf_1 : decode cX1_placeOf 1 = .ok (.istore_n 3, 1) := by decide +kernel
theorem dX1_placeOf_2 : decode cX1_placeOf 2 = .ok (.aload_n 0, 1) := by decide +kernel
theorem dX1_placeOf_3 : decode cX1_placeOf 3 = .ok (.getfield 45, 3) := by decide +kernel
theorem dX1_placeOf_6 : decode cX1_placeOf 6 = .ok (.iconst 1, 1) := by decide +kernel
theorem dX1_placeOf_7 : decode cX1_placeOf 7 = .ok (.isub, 1) := by decide +kernel
theorem dX1_placeOf_8 : decode cX1_placeOf 8 = .ok (.istore 4, 2) := by decide +kernel
theorem dX1_placeOf_10 : decode cX1_placeOf 10 = .ok (.iconst 0, 1) := by decide +kernel
theorem dX1_placeOf_11 : decode cX1_placeOf 11 = .ok (.istore 5, 2) := by decide +kernel
theorem dX1_placeOf_13 : decode cX1_placeOf 13 = .ok (.iload 5, 2) := by decide +kernel
theorem dX1_placeOf_15 : decode cX1_placeOf 15 = .ok (.bipush 32, 2) := by decide +kernel
theorem dX1_placeOf_17 : decode cX1_placeOf 17 = .ok (.if_icmp .ge 64, 3) := by decide +kernel
theorem dX1_placeOf_20 : decode cX1_placeOf 20 = .ok (.iload_n 3, 1) := by decide +kernel
theorem dX1_placeOf_21 : decode cX1_placeOf 21 = .ok (.iload 4, 2) := by decide +kernel
theorem dX1_placeOf_23 : decode cX1_placeOf 23 = .ok (.if_icmp .gt 58, 3) := by decide +kernel
theorem dX1_placeOf_26 : decode cX1_placeOf 26 = .ok (.iload_n 3, 1) := by decide +kernel
theorem dX1_placeOf_27 : decode cX1_placeOf 27 = .ok (.iload 4, 2) := by decide +kernel
theorem dX1_placeOf_29 : decode cX1_placeOf 29 = .ok (.iadd, 1) := by decide +kernel
theorem dX1_placeOf_30 : decode cX1_placeOf 30 = .ok (.iconst 2, 1) := by decide +kernel
theorem dX1_placeOf_31 : decode cX1_placeOf 31 = .ok (.idiv, 1) := by decide +kernel
theorem dX1_placeOf_32 : decode cX1_placeOf 32 = .ok (.istore 6, 2) := by decide +kernel
theorem dX1_placeOf_34 : decode cX1_placeOf 34 = .ok (.aload_n 0, 1) := by decide +kernel
theorem dX1_placeOf_35 : decode cX1_placeOf 35 = .ok (.getfield 9, 3) := by decide +kernel
theorem dX1_placeOf_38 : decode cX1_placeOf 38 = .ok (.iload 6, 2) := by decide +kernel
theorem dX1_placeOf_40 : decode cX1_placeOf 40 = .ok (.laload, 1) := by decide +kernel
theorem dX1_placeOf_41 : decode cX1_placeOf 41 = .ok (.lload_n 1, 1) := by decide +kernel
theorem dX1_placeOf_42 : decode cX1_placeOf 42 = .ok (.lcmp, 1) := by decide +kernel
theorem dX1_placeOf_43 : decode cX1_placeOf 43 = .ok (.ifCond .ne 6, 3) := by decide +kernel
theorem dX1_placeOf_46 : decode cX1_placeOf 46 = .ok (.iload 6, 2) := by decide +kernel
theorem dX1_placeOf_48 : decode cX1_placeOf 48 = .ok (.ireturn, 1) := by decide +kernel
theorem dX1_placeOf_49 : decode cX1_placeOf 49 = .ok (.aload_n 0, 1) := by decide +kernel
theorem dX1_placeOf_50 : decode cX1_placeOf 50 = .ok (.getfield 9, 3) := by decide +kernel
theorem dX1_placeOf_53 : decode cX1_placeOf 53 = .ok (.iload 6, 2) := by decide +kernel
theorem dX1_placeOf_55 : decode cX1_placeOf 55 = .ok (.laload, 1) := by decide +kernel
theorem dX1_placeOf_56 : decode cX1_placeOf 56 = .ok (.lload_n 1, 1) := by decide +kernel
theorem dX1_placeOf_57 : decode cX1_placeOf 57 = .ok (.lcmp, 1) := by decide +kernel
theorem dX1_placeOf_58 : decode cX1_placeOf 58 = .ok (.ifCond .le 11, 3) := by decide +kernel
theorem dX1_placeOf_61 : decode cX1_placeOf 61 = .ok (.iload 6, 2) := by decide +kernel
theorem dX1_placeOf_63 : decode cX1_placeOf 63 = .ok (.iconst 1, 1) := by decide +kernel
theorem dX1_placeOf_64 : decode cX1_placeOf 64 = .ok (.iadd, 1) := by decide +kernel
theorem dX1_placeOf_65 : decode cX1_placeOf 65 = .ok (.istore_n 3, 1) := by decide +kernel
theorem dX1_placeOf_66 : decode cX1_placeOf 66 = .ok (.goto 9, 3) := by decide +kernel
theorem dX1_placeOf_69 : decode cX1_placeOf 69 = .ok (.iload 6, 2) := by decide +kernel
theorem dX1_placeOf_71 : decode cX1_placeOf 71 = .ok (.iconst 1, 1) := by decide +kernel
theorem dX1_placeOf_72 : decode cX1_placeOf 72 = .ok (.isub, 1) := by decide +kernel
theorem dX1_placeOf_73 : decode cX1_placeOf 73 = .ok (.istore 4, 2) := by decide +kernel
theorem dX1_placeOf_75 : decode cX1_placeOf 75 = .ok (.iinc 5 1, 3) := by decide +kernel
theorem dX1_placeOf_78 : decode cX1_placeOf 78 = .ok (.goto (-65), 3) := by decide +kernel
theorem dX1_placeOf_81 : decode cX1_placeOf 81 = .ok (.iconst (-1), 1) := by decide +kernel
theorem dX1_placeOf_82 : decode cX1_placeOf 82 = .ok (.ireturn, 1) := by decide +kernel
abbrev po_X1_placeOf (cI cJ : ClassId) (hX1 : Nat) (aX1_rows : Nat) (aX1_ones : Nat) (aX1_twos : Nat) (aX1_distances : Nat) (aX1_reached : Nat) (f_swaps : Int) (f_there : Int) (f_size : Int) (f_mostShares : Int) (f_source : Int) (f_looked : Int) (f_ends : Int) (f_rows : Int → Int) (Q : Int → Prop) : Option Value → va_W → Prop := fun rv w1 => ∃ (r0 : Int), rv = some (.int (i32 r0)) ∧ w1 = [(hX1, .inr (1, [.ref aX1_rows, .ref aX1_ones, .ref aX1_twos, .ref aX1_distances, .ref aX1_reached, .int (i32 f_swaps), .int (i32 f_there), .int (i32 f_size), .int (i32 f_mostShares), .int (i32 f_source), .int (i32 f_looked), .int (i32 f_ends)])), (aX1_rows, aL cJ 2001 f_rows)] ∧ r32 r0 ∧ Q r0
def wp_X1_placeOf_75 (Q : Int → Prop) (f_rows : Int → Int) (f_size : Int) (K_13 : Int → Int → Int → Int → Prop) (l1 : Int) (l3 : Int) (l4 : Int) (l5 : Int) : Prop := (r32 (l5 + 1) ∧ K_13 l1 l3 l4 (l5 + 1))
set_option maxHeartbeats 4000000 in
set_option maxRecDepth 100000 in
theorem s_X1_placeOf_75 {X : Cx} (g : Gd X cX1_placeOf RX1 (some .int) 7) (hR : X.R = rmL 1 0 0) (hX1 : Nat) (aX1_rows : Nat) (aX1_ones : Nat) (aX1_twos : Nat) (aX1_distances : Nat) (aX1_reached : Nat) (f_swaps : Int) (f_there : Int) (f_mostShares : Int) (f_source : Int) (f_looked : Int) (f_ends : Int) (f_rows : Int → Int) (f_size : Int) (r_f_rows : rr64 f_rows) (r_f_size : r32 f_size) (Q : Int → Prop) (hF : FQ X 0 0 (po_X1_placeOf X.cI X.cJ hX1 aX1_rows aX1_ones aX1_twos aX1_distances aX1_reached f_swaps f_there f_size f_mostShares f_source f_looked f_ends f_rows Q)) (K_13 : Int → Int → Int → Int → Prop) (hK_13 : ∀ (l1 : Int) (l3 : Int) (l4 : Int) (l5 : Int), r64 l1 → r32 l3 → r32 l4 → r32 l5 → K_13 l1 l3 l4 l5 → Wat X 0 0 13 [(0, .ref hX1), (1, .long (i64 l1)), (3, .int (i32 l3)), (4, .int (i32 l4)), (5, .int (i32 l5))] [] [(hX1, .inr (1, [.ref aX1_rows, .ref aX1_ones, .ref aX1_twos, .ref aX1_distances, .ref aX1_reached, .int (i32 f_swaps), .int (i32 f_there), .int (i32 f_size), .int (i32 f_mostShares), .int (i32 f_source), .int (i32 f_looked), .int (i32 f_ends)])), (aX1_rows, aL X.cJ 2001 f_rows)]) : ∀ (l1 : Int) (l3 : Int) (l4 : Int) (l5 : Int), r64 l1 → r32 l3 → r32 l4 → r32 l5 → wp_X1_placeOf_75 Q f_rows f_size K_13 l1 l3 l4 l5 → Wat X 0 0 75 [(0, .ref hX1), (1, .long (i64 l1)), (3, .int (i32 l3)), (4, .int (i32 l4)), (5, .int (i32 l5))] [] [(hX1, .inr (1, [.ref aX1_rows, .ref aX1_ones, .ref aX1_twos, .ref aX1_distances, .ref aX1_reached, .int (i32 f_swaps), .int (i32 f_there), .int (i32 f_size), .int (i32 f_mostShares), .int (i32 f_source), .int (i32 f_looked), .int (i32 f_ends)])), (aX1_rows, aL X.cJ 2001 f_rows)] := by
  intro l1 l3 l4 l5 r_l1 r_l3 r_l4 r_l5 h
  rw [wp_X1_placeOf_75] at h
  obtain ⟨c75, h⟩ := h
  refine q_iinc (lv' := [(5, .int (i32 (l5 + 1))), (0, .ref hX1), (1, .long (i64 l1)), (3, .int (i32 l3)), (4, .int (i32 l4))]) g 5 4 1 (by decide) rfl rfl dX1_placeOf_75 ?_
  refine q_goto g (-65) 13 (by decide) dX1_placeOf_78 ?_
  refine q_lv (lv' := [(0, .ref hX1), (1, .long (i64 l1)), (3, .int (i32 l3)), (4, .int (i32 l4)), (5, .int (i32 (l5 + 1)))]) [1, 2, 3, 4, 0] rfl ?_
  exact hK_13 l1 l3 l4 (l5 + 1) r_l1 r_l3 r_l4 c75 h
def wp_X1_placeOf_81 (Q : Int → Prop) (f_rows : Int → Int) (f_size : Int) : Prop := Q (-1)
set_option maxHeartbeats 4000000 in
set_option maxRecDepth 100000 in
theorem s_X1_placeOf_81 {X : Cx} (g : Gd X cX1_placeOf RX1 (some .int) 7) (hR : X.R = rmL 1 0 0) (hX1 : Nat) (aX1_rows : Nat) (aX1_ones : Nat) (aX1_twos : Nat) (aX1_distances : Nat) (aX1_reached : Nat) (f_swaps : Int) (f_there : Int) (f_mostShares : Int) (f_source : Int) (f_looked : Int) (f_ends : Int) (f_rows : Int → Int) (f_size : Int) (r_f_rows : rr64 f_rows) (r_f_size : r32 f_size) (Q : Int → Prop) (hF : FQ X 0 0 (po_X1_placeOf X.cI X.cJ hX1 aX1_rows aX1_ones aX1_twos aX1_distances aX1_reached f_swaps f_there f_size f_mostShares f_source f_looked f_ends f_rows Q)) : wp_X1_placeOf_81 Q f_rows f_size → Wat X 0 0 81 [] [] [(hX1, .inr (1, [.ref aX1_rows, .ref aX1_ones, .ref aX1_twos, .ref aX1_distances, .ref aX1_reached, .int (i32 f_swaps), .int (i32 f_there), .int (i32 f_size), .int (i32 f_mostShares), .int (i32 f_source), .int (i32 f_looked), .int (i32 f_ends)])), (aX1_rows, aL X.cJ 2001 f_rows)] := by
  intro h
  rw [wp_X1_placeOf_81] at h
  refine q_iconst g (-1) dX1_placeOf_81 ?_
  exact q_iret g hF ⟨(-1), rfl, rfl, (r32_lit _ (by decide)), h⟩ dX1_placeOf_82
def wp_X1_placeOf_13 (Q : Int → Prop) (f_rows : Int → Int) (f_size : Int) : Nat → Int → Int → Int → Int → Prop
  | 0, _, _, _, _ => False
  | n + 1, l1, l3, l4, l5 => ((32 ≤ l5 → wp_X1_placeOf_81 Q f_rows f_size) ∧
  (¬ (32 ≤ l5) → ((l4 < l3 → wp_X1_placeOf_81 Q f_rows f_size) ∧
  (¬ (l4 < l3) → (r32 (l3 + l4) ∧ ∀ x32 : Int, x32 = (Int.tdiv (l3 + l4) 2) → 0 ≤ x32 ∧ x32 < 2001 ∧ ((¬ (f_rows x32) = l1 → (0 ≤ x32 ∧ x32 < 2001 ∧ (((f_rows x32) ≤ l1 → (r32 (x32 - 1) ∧ ∀ x73 : Int, x73 = (x32 - 1) → wp_X1_placeOf_75 Q f_rows f_size (wp_X1_placeOf_13 Q f_rows f_size n) l1 l3 x73 l5)) ∧
  (¬ ((f_rows x32) ≤ l1) → (r32 (x32 + 1) ∧ ∀ x65 : Int, x65 = (x32 + 1) → wp_X1_placeOf_75 Q f_rows f_size (wp_X1_placeOf_13 Q f_rows f_size n) l1 x65 l4 l5))))) ∧
  ((f_rows x32) = l1 → Q x32)))))))
set_option maxHeartbeats 4000000 in
set_option maxRecDepth 100000 in
theorem s_X1_placeOf_13 {X : Cx} (g : Gd X cX1_placeOf RX1 (some .int) 7) (hR : X.R = rmL 1 0 0) (hX1 : Nat) (aX1_rows : Nat) (aX1_ones : Nat) (aX1_twos : Nat) (aX1_distances : Nat) (aX1_reached : Nat) (f_swaps : Int) (f_there : Int) (f_mostShares : Int) (f_source : Int) (f_looked : Int) (f_ends : Int) (f_rows : Int → Int) (f_size : Int) (r_f_rows : rr64 f_rows) (r_f_size : r32 f_size) (Q : Int → Prop) (hF : FQ X 0 0 (po_X1_placeOf X.cI X.cJ hX1 aX1_rows aX1_ones aX1_twos aX1_distances aX1_reached f_swaps f_there f_size f_mostShares f_source f_looked f_ends f_rows Q)) : ∀ (n : Nat) (l1 : Int) (l3 : Int) (l4 : Int) (l5 : Int), r64 l1 → r32 l3 → r32 l4 → r32 l5 → wp_X1_placeOf_13 Q f_rows f_size n l1 l3 l4 l5 → Wat X 0 0 13 [(0, .ref hX1), (1, .long (i64 l1)), (3, .int (i32 l3)), (4, .int (i32 l4)), (5, .int (i32 l5))] [] [(hX1, .inr (1, [.ref aX1_rows, .ref aX1_ones, .ref aX1_twos, .ref aX1_distances, .ref aX1_reached, .int (i32 f_swaps), .int (i32 f_there), .int (i32 f_size), .int (i32 f_mostShares), .int (i32 f_source), .int (i32 f_looked), .int (i32 f_ends)])), (aX1_rows, aL X.cJ 2001 f_rows)] := by
  intro n
  induction n with
  | zero => intro l1 l3 l4 l5 r_l1 r_l3 r_l4 r_l5 h; exact False.elim h
  | succ n ih =>
    intro l1 l3 l4 l5 r_l1 r_l3 r_l4 r_l5 h
    rw [wp_X1_placeOf_13] at h
    refine q_iload g 5 4 rfl dX1_placeOf_13 ?_
    refine q_bipush g (32) (by decide) (by decide) dX1_placeOf_15 ?_
    refine q_icmp_ge g (64) 81 r_l5 (r32_lit _ (by decide)) (by decide) dX1_placeOf_17 (fun b17 => ?_) (fun b17 => ?_)
    · replace h := h.1 b17
      refine q_lv (lv' := []) [] rfl ?_
      exact s_X1_placeOf_81 g hR hX1 aX1_rows aX1_ones aX1_twos aX1_distances aX1_reached f_swaps f_there f_mostShares f_source f_looked f_ends f_rows f_size r_f_rows r_f_size Q hF h
    replace h := h.2 b17
    refine q_iload_n g 3 2 rfl dX1_placeOf_20 ?_
    refine q_iload g 4 3 rfl dX1_placeOf_21 ?_
    refine q_icmp_gt g (58) 81 r_l3 r_l4 (by decide) dX1_placeOf_23 (fun b23 => ?_) (fun b23 => ?_)
    · replace h := h.1 b23
      refine q_lv (lv' := []) [] rfl ?_
      exact s_X1_placeOf_81 g hR hX1 aX1_rows aX1_ones aX1_twos aX1_distances aX1_reached f_swaps f_there f_mostShares f_source f_looked f_ends f_rows f_size r_f_rows r_f_size Q hF h
    replace h := h.2 b23
    refine q_iload_n g 3 2 rfl dX1_placeOf_26 ?_
    refine q_iload g 4 3 rfl dX1_placeOf_27 ?_
    obtain ⟨c29, h⟩ := h
    refine q_iadd g dX1_placeOf_29 ?_
    refine q_iconst g (2) dX1_placeOf_30 ?_
    refine q_idiv g c29 (r32_lit _ (by decide)) (ne_of_pos (by decide)) dX1_placeOf_31 ?_
    refine q_topi (r32_tdiv c29 (by decide)) (fun x32 ex32 rx32 => ?_)
    replace h := h x32 ex32
    refine q_istore (lv' := [(6, .int (i32 x32)), (0, .ref hX1), (1, .long (i64 l1)), (3, .int (i32 l3)), (4, .int (i32 l4)), (5, .int (i32 l5))]) g 6   (by decide) rfl dX1_placeOf_32 ?_
    refine q_aload_n g 0 1 rfl dX1_placeOf_34 ?_
    refine q_get (C := RX1) (T := TX1) (N := 12) g 9 inX1 0 0 rfl rfl (by decide) wF_X1_9 rfl dX1_placeOf_35 ?_
    refine q_iload g 6 0 rfl dX1_placeOf_38 ?_
    obtain ⟨c40, h⟩ := h
    obtain ⟨e40, h⟩ := h
    refine q_lald g 1 rfl c40 e40 (by decide) dX1_placeOf_40 ?_
    refine q_lload_n g 1 2 rfl dX1_placeOf_41 ?_
    refine q_lcmp_ne g (6) 49 (r_f_rows _) r_l1 (by decide) dX1_placeOf_42 dX1_placeOf_43 (fun b42 => ?_) (fun b42 => ?_)
    · replace h := h.1 b42
      refine q_aload_n g 0 1 rfl dX1_placeOf_49 ?_
      refine q_get (C := RX1) (T := TX1) (N := 12) g 9 inX1 0 0 rfl rfl (by decide) wF_X1_9 rfl dX1_placeOf_50 ?_
      refine q_iload g 6 0 rfl dX1_placeOf_53 ?_
      obtain ⟨c55, h⟩ := h
      obtain ⟨e55, h⟩ := h
      refine q_lald g 1 rfl c55 e55 (by decide) dX1_placeOf_55 ?_
      refine q_lload_n g 1 2 rfl dX1_placeOf_56 ?_
      refine q_lcmp_le g (11) 69 (r_f_rows _) r_l1 (by decide) dX1_placeOf_57 dX1_placeOf_58 (fun b57 => ?_) (fun b57 => ?_)
      · replace h := h.1 b57
        refine q_iload g 6 0 rfl dX1_placeOf_69 ?_
        refine q_iconst g (1) dX1_placeOf_71 ?_
        obtain ⟨c72, h⟩ := h
        refine q_isub g dX1_placeOf_72 ?_
        refine q_topi c72 (fun x73 ex73 rx73 => ?_)
        replace h := h x73 ex73
        refine q_istore (lv' := [(4, .int (i32 x73)), (6, .int (i32 x32)), (0, .ref hX1), (1, .long (i64 l1)), (3, .int (i32 l3)), (5, .int (i32 l5))]) g 4   (by decide) rfl dX1_placeOf_73 ?_
        refine q_lv (lv' := [(0, .ref hX1), (1, .long (i64 l1)), (3, .int (i32 l3)), (4, .int (i32 x73)), (5, .int (i32 l5))]) [2, 3, 4, 0, 5] rfl ?_
        exact s_X1_placeOf_75 g hR hX1 aX1_rows aX1_ones aX1_twos aX1_distances aX1_reached f_swaps f_there f_mostShares f_source f_looked f_ends f_rows f_size r_f_rows r_f_size Q hF (wp_X1_placeOf_13 Q f_rows f_size n) (fun v0 v1 v2 v3 w0 w1 w2 w3 hh => ih v0 v1 v2 v3 w0 w1 w2 w3 hh) l1 l3 x73 l5 r_l1 r_l3 rx73 r_l5 h
      replace h := h.2 b57
      refine q_iload g 6 0 rfl dX1_placeOf_61 ?_
      refine q_iconst g (1) dX1_placeOf_63 ?_
      obtain ⟨c64, h⟩ := h
      refine q_iadd g dX1_placeOf_64 ?_
      refine q_topi c64 (fun x65 ex65 rx65 => ?_)
      replace h := h x65 ex65
      refine q_istore_n (lv' := [(3, .int (i32 x65)), (6, .int (i32 x32)), (0, .ref hX1), (1, .long (i64 l1)), (4, .int (i32 l4)), (5, .int (i32 l5))]) g 3 3 rfl (by decide) rfl dX1_placeOf_65 ?_
      refine q_goto g (9) 75 (by decide) dX1_placeOf_66 ?_
      refine q_lv (lv' := [(0, .ref hX1), (1, .long (i64 l1)), (3, .int (i32 x65)), (4, .int (i32 l4)), (5, .int (i32 l5))]) [2, 3, 0, 4, 5] rfl ?_
      exact s_X1_placeOf_75 g hR hX1 aX1_rows aX1_ones aX1_twos aX1_distances aX1_reached f_swaps f_there f_mostShares f_source f_looked f_ends f_rows f_size r_f_rows r_f_size Q hF (wp_X1_placeOf_13 Q f_rows f_size n) (fun v0 v1 v2 v3 w0 w1 w2 w3 hh => ih v0 v1 v2 v3 w0 w1 w2 w3 hh) l1 x65 l4 l5 r_l1 rx65 r_l4 r_l5 h
    replace h := h.2 b42
    refine q_iload g 6 0 rfl dX1_placeOf_46 ?_
    exact q_iret g hF ⟨x32, rfl, rfl, rx32, h⟩ dX1_placeOf_48
def wp_X1_placeOf (Q : Int → Prop) (f_rows : Int → Int) (f_size : Int) (l1 : Int) : Prop := (r32 (f_size - 1) ∧ ∀ x8 : Int, x8 = (f_size - 1) → (∃ n0 : Nat, wp_X1_placeOf_13 Q f_rows f_size n0 l1 0 x8 0))
set_option maxHeartbeats 4000000 in
set_option maxRecDepth 100000 in
theorem c_X1_placeOf (l : Launch) (D : va_G) (cI cJ : ClassId) (zt : Nat) (hX1 : Nat) (aX1_rows : Nat) (aX1_ones : Nat) (aX1_twos : Nat) (aX1_distances : Nat) (aX1_reached : Nat) (f_swaps : Int) (f_there : Int) (f_size : Int) (f_mostShares : Int) (f_source : Int) (f_looked : Int) (f_ends : Int) (f_rows : Int → Int) (l1 : Int) (Q : Int → Prop) (r_f_rows : rr64 f_rows) (r_f_size : r32 f_size) (r_l1 : r64 l1) (h : wp_X1_placeOf Q f_rows f_size l1) : Ct l D cI cJ zt yX1_placeOf cX1_placeOf 7 (some .int) 1 0 0 [.ref hX1, .long (i64 l1)] [(hX1, .inr (1, [.ref aX1_rows, .ref aX1_ones, .ref aX1_twos, .ref aX1_distances, .ref aX1_reached, .int (i32 f_swaps), .int (i32 f_there), .int (i32 f_size), .int (i32 f_mostShares), .int (i32 f_source), .int (i32 f_looked), .int (i32 f_ends)])), (aX1_rows, aL cJ 2001 f_rows)] (po_X1_placeOf cI cJ hX1 aX1_rows aX1_ones aX1_twos aX1_distances aX1_reached f_swaps f_there f_size f_mostShares f_source f_looked f_ends f_rows Q) := by
  refine ct_of (by decide +kernel) (Nat.le_of_ble_eq_true rfl) (fun X hl hDD hcI hcJ hzt hR hF hnm g => ?_)
  subst hl; subst hDD; subst hcI; subst hcJ; subst hzt
  show Wat X 0 0 0 [(0, .ref hX1), (1, .long (i64 l1))] [] [(hX1, .inr (1, [.ref aX1_rows, .ref aX1_ones, .ref aX1_twos, .ref aX1_distances, .ref aX1_reached, .int (i32 f_swaps), .int (i32 f_there), .int (i32 f_size), .int (i32 f_mostShares), .int (i32 f_source), .int (i32 f_looked), .int (i32 f_ends)])), (aX1_rows, aL X.cJ 2001 f_rows)]
  replace g : Gd X cX1_placeOf RX1 (some .int) 7 := g
  rw [wp_X1_placeOf] at h
  refine q_iconst g (0) dX1_placeOf_0 ?_
  refine q_istore_n (lv' := [(3, .int (i32 0)), (0, .ref hX1), (1, .long (i64 l1))]) g 3 3 rfl (by decide) rfl dX1_placeOf_1 ?_
  refine q_aload_n g 0 1 rfl dX1_placeOf_2 ?_
  refine q_get (C := RX1) (T := TX1) (N := 12) g 45 inX1 0 7 rfl rfl (by decide) wF_X1_45 rfl dX1_placeOf_3 ?_
  refine q_iconst g (1) dX1_placeOf_6 ?_
  obtain ⟨c7, h⟩ := h
  refine q_isub g dX1_placeOf_7 ?_
  refine q_topi c7 (fun x8 ex8 rx8 => ?_)
  replace h := h x8 ex8
  refine q_istore (lv' := [(4, .int (i32 x8)), (3, .int (i32 0)), (0, .ref hX1), (1, .long (i64 l1))]) g 4   (by decide) rfl dX1_placeOf_8 ?_
  refine q_iconst g (0) dX1_placeOf_10 ?_
  refine q_istore (lv' := [(5, .int (i32 0)), (4, .int (i32 x8)), (3, .int (i32 0)), (0, .ref hX1), (1, .long (i64 l1))]) g 5   (by decide) rfl dX1_placeOf_11 ?_
  refine q_lv (lv' := [(0, .ref hX1), (1, .long (i64 l1)), (3, .int (i32 0)), (4, .int (i32 x8)), (5, .int (i32 0))]) [3, 4, 2, 1, 0] rfl ?_
  obtain ⟨n0, h⟩ := h
  exact s_X1_placeOf_13 g hR hX1 aX1_rows aX1_ones aX1_twos aX1_distances aX1_reached f_swaps f_there f_mostShares f_source f_looked f_ends f_rows f_size r_f_rows r_f_size Q hF n0 l1 0 x8 0 r_l1 (r32_lit _ (by decide)) rx8 (r32_lit _ (by decide)) h
theorem dX1_across_0 : decode cX1_across 0 = .ok (.aload_n 0, 1) := by decide +kernel
theorem dX1_across_1 : decode cX1_across 1 = .ok (.getfield 15, 3) := by decide +kernel
theorem dX1_across_4 : decode cX1_across 4 = .ok (.iload_n 3, 1) := by decide +kernel
theorem dX1_across_5 : decode cX1_across 5 = .ok (.laload, 1) := by decide +kernel
theorem dX1_across_6 : decode cX1_across 6 = .ok (.aload_n 0, 1) := by decide +kernel
theorem dX1_across_7 : decode cX1_across 7 = .ok (.getfield 18, 3) := by decide +kernel
theorem dX1_across_10 : decode cX1_across 10 = .ok (.iload_n 3, 1) := by decide +kernel
theorem dX1_across_11 : decode cX1_across 11 = .ok (.laload, 1) := by decide +kernel
theorem dX1_across_12 : decode cX1_across 12 = .ok (.lor, 1) := by decide +kernel
theorem dX1_across_13 : decode cX1_across 13 = .ok (.lstore 4, 2) := by decide +kernel
theorem dX1_across_15 : decode cX1_across 15 = .ok (.lload_n 1, 1) := by decide +kernel
theorem dX1_across_16 : decode cX1_across 16 = .ok (.lload 4, 2) := by decide +kernel
theorem dX1_across_18 : decode cX1_across 18 = .ok (.land, 1) := by decide +kernel
theorem dX1_across_19 : decode cX1_across 19 = .ok (.lstore 6, 2) := by decide +kernel
theorem dX1_across_21 : decode cX1_across 21 = .ok (.lload 6, 2) := by decide +kernel
theorem dX1_across_23 : decode cX1_across 23 = .ok (.aload_n 0, 1) := by decide +kernel
theorem dX1_across_24 : decode cX1_across 24 = .ok (.getfield 15, 3) := by decide +kernel
theorem dX1_across_27 : decode cX1_across 27 = .ok (.iload_n 3, 1) := by decide +kernel
theorem dX1_across_28 : decode cX1_across 28 = .ok (.laload, 1) := by decide +kernel
theorem dX1_across_29 : decode cX1_across 29 = .ok (.lcmp, 1) := by decide +kernel
theorem dX1_across_30 : decode cX1_across 30 = .ok (.ifCond .eq 17, 3) := by decide +kernel
theorem dX1_across_33 : decode cX1_across 33 = .ok (.lload 6, 2) := by decide +kernel
theorem dX1_across_35 : decode cX1_across 35 = .ok (.aload_n 0, 1) := by decide +kernel
theorem dX1_across_36 : decode cX1_across 36 = .ok (.getfield 18, 3) := by decide +kernel
theorem dX1_across_39 : decode cX1_across 39 = .ok (.iload_n 3, 1) := by decide +kernel
theorem dX1_across_40 : decode cX1_across 40 = .ok (.laload, 1) := by decide +kernel
theorem dX1_across_41 : decode cX1_across 41 = .ok (.lcmp, 1) := by decide +kernel
theorem dX1_across_42 : decode cX1_across 42 = .ok (.ifCond .eq 5, 3) := by decide +kernel
theorem dX1_across_45 : decode cX1_across 45 = .ok (.iconst (-1), 1) := by decide +kernel
theorem dX1_across_46 : decode cX1_across 46 = .ok (.ireturn, 1) := by decide +kernel
theorem dX1_across_47 : decode cX1_across 47 = .ok (.lload_n 1, 1) := by decide +kernel
theorem dX1_across_48 : decode cX1_across 48 = .ok (.lload 4, 2) := by decide +kernel
theorem dX1_across_50 : decode cX1_across 50 = .ok (.lxor, 1) := by decide +kernel
theorem dX1_across_51 : decode cX1_across 51 = .ok (.lstore 8, 2) := by decide +kernel
theorem dX1_across_53 : decode cX1_across 53 = .ok (.lload 8, 2) := by decide +kernel
theorem dX1_across_55 : decode cX1_across 55 = .ok (.invokestatic 54, 3) := by decide +kernel
theorem dX1_across_58 : decode cX1_across 58 = .ok (.aload_n 0, 1) := by decide +kernel
theorem dX1_across_59 : decode cX1_across 59 = .ok (.getfield 48, 3) := by decide +kernel
theorem dX1_across_62 : decode cX1_across 62 = .ok (.if_icmp .le 7, 3) := by decide +kernel
theorem dX1_across_65 : decode cX1_across 65 = .ok (.iconst (-1), 1) := by decide +kernel
theorem dX1_across_66 : decode cX1_across 66 = .ok (.goto 9, 3) := by decide +kernel
theorem dX1_across_69 : decode cX1_across 69 = .ok (.aload_n 0, 1) := by decide +kernel
theorem dX1_across_70 : decode cX1_across 70 = .ok (.lload 8, 2) := by decide +kernel
theorem dX1_across_72 : decode cX1_across 72 = .ok (.invokevirtual 87, 3) := by decide +kernel
theorem dX1_across_75 : decode cX1_across 75 = .ok (.ireturn, 1) := by decide +kernel
abbrev po_X1_across (cI cJ : ClassId) (hX1 : Nat) (aX1_rows : Nat) (aX1_ones : Nat) (aX1_twos : Nat) (aX1_distances : Nat) (aX1_reached : Nat) (f_swaps : Int) (f_there : Int) (f_size : Int) (f_mostShares : Int) (f_source : Int) (f_looked : Int) (f_ends : Int) (f_rows : Int → Int) (f_ones : Int → Int) (f_twos : Int → Int) (Q : Int → Prop) : Option Value → va_W → Prop := fun rv w1 => ∃ (r0 : Int), rv = some (.int (i32 r0)) ∧ w1 = [(hX1, .inr (1, [.ref aX1_rows, .ref aX1_ones, .ref aX1_twos, .ref aX1_distances, .ref aX1_reached, .int (i32 f_swaps), .int (i32 f_there), .int (i32 f_size), .int (i32 f_mostShares), .int (i32 f_source), .int (i32 f_looked), .int (i32 f_ends)])), (aX1_rows, aL cJ 2001 f_rows), (aX1_ones, aL cJ 31 f_ones), (aX1_twos, aL cJ 31 f_twos)] ∧ r32 r0 ∧ Q r0
def wp_X1_across_75 (Q : Int → Prop) (f_rows : Int → Int) (f_ones : Int → Int) (f_twos : Int → Int) (f_size : Int) (f_mostShares : Int) (k0 : Int) : Prop := Q k0
set_option maxHeartbeats 4000000 in
set_option maxRecDepth 100000 in
theorem s_X1_across_75 {X : Cx} (g : Gd X cX1_across RX1 (some .int) 10) (hR : X.R = rmL 2 0 0) (hX1 : Nat) (aX1_rows : Nat) (aX1_ones : Nat) (aX1_twos : Nat) (aX1_distances : Nat) (aX1_reached : Nat) (f_swaps : Int) (f_there : Int) (f_source : Int) (f_looked : Int) (f_ends : Int) (f_rows : Int → Int) (f_ones : Int → Int) (f_twos : Int → Int) (f_size : Int) (f_mostShares : Int) (r_f_rows : rr64 f_rows) (r_f_ones : rr64 f_ones) (r_f_twos : rr64 f_twos) (r_f_size : r32 f_size) (r_f_mostShares : r32 f_mostShares) (Q : Int → Prop) (hF : FQ X 0 0 (po_X1_across X.cI X.cJ hX1 aX1_rows aX1_ones aX1_twos aX1_distances aX1_reached f_swaps f_there f_size f_mostShares f_source f_looked f_ends f_rows f_ones f_twos Q)) : ∀ (k0 : Int), r32 k0 → wp_X1_across_75 Q f_rows f_ones f_twos f_size f_mostShares k0 → Wat X 0 0 75 [] [.int (i32 k0)] [(hX1, .inr (1, [.ref aX1_rows, .ref aX1_ones, .ref aX1_twos, .ref aX1_distances, .ref aX1_reached, .int (i32 f_swaps), .int (i32 f_there), .int (i32 f_size), .int (i32 f_mostShares), .int (i32 f_source), .int (i32 f_looked), .int (i32 f_ends)])), (aX1_rows, aL X.cJ 2001 f_rows), (aX1_ones, aL X.cJ 31 f_ones), (aX1_twos, aL X.cJ 31 f_twos)] := by
  intro k0 r_k0 h
  rw [wp_X1_across_75] at h
  exact q_iret g hF ⟨k0, rfl, rfl, r_k0, h⟩ dX1_across_75
def wp_X1_across_47 (Q : Int → Prop) (f_rows : Int → Int) (f_ones : Int → Int) (f_twos : Int → Int) (f_size : Int) (f_mostShares : Int) (l1 : Int) (l4 : Int) : Prop := (∀ x51 : Int, x51 = (lxor64 l1 l4) → wp_J13_bitCount_95d88 (fun (x55 : Int) => ((x55 ≤ f_mostShares → wp_X1_placeOf (fun (x72 : Int) => wp_X1_across_75 Q f_rows f_ones f_twos f_size f_mostShares x72) f_rows f_size x51) ∧
  (¬ (x55 ≤ f_mostShares) → wp_X1_across_75 Q f_rows f_ones f_twos f_size f_mostShares (-1)))) x51)
set_option maxHeartbeats 4000000 in
set_option maxRecDepth 100000 in
theorem s_X1_across_47 {X : Cx} (g : Gd X cX1_across RX1 (some .int) 10) (hR : X.R = rmL 2 0 0) (hX1 : Nat) (aX1_rows : Nat) (aX1_ones : Nat) (aX1_twos : Nat) (aX1_distances : Nat) (aX1_reached : Nat) (f_swaps : Int) (f_there : Int) (f_source : Int) (f_looked : Int) (f_ends : Int) (f_rows : Int → Int) (f_ones : Int → Int) (f_twos : Int → Int) (f_size : Int) (f_mostShares : Int) (r_f_rows : rr64 f_rows) (r_f_ones : rr64 f_ones) (r_f_twos : rr64 f_twos) (r_f_size : r32 f_size) (r_f_mostShares : r32 f_mostShares) (Q : Int → Prop) (hF : FQ X 0 0 (po_X1_across X.cI X.cJ hX1 aX1_rows aX1_ones aX1_twos aX1_distances aX1_reached f_swaps f_there f_size f_mostShares f_source f_looked f_ends f_rows f_ones f_twos Q)) : ∀ (l1 : Int) (l4 : Int), r64 l1 → r64 l4 → wp_X1_across_47 Q f_rows f_ones f_twos f_size f_mostShares l1 l4 → Wat X 0 0 47 [(0, .ref hX1), (1, .long (i64 l1)), (4, .long (i64 l4))] [] [(hX1, .inr (1, [.ref aX1_rows, .ref aX1_ones, .ref aX1_twos, .ref aX1_distances, .ref aX1_reached, .int (i32 f_swaps), .int (i32 f_there), .int (i32 f_size), .int (i32 f_mostShares), .int (i32 f_source), .int (i32 f_looked), .int (i32 f_ends)])), (aX1_rows, aL X.cJ 2001 f_rows), (aX1_ones, aL X.cJ 31 f_ones), (aX1_twos, aL X.cJ 31 f_twos)] := by
  intro l1 l4 r_l1 r_l4 h
  rw [wp_X1_across_47] at h
  refine q_lload_n g 1 1 rfl dX1_across_47 ?_
  refine q_lload g 4 2 rfl dX1_across_48 ?_
  refine q_lxor g dX1_across_50 ?_
  refine q_topl (r_lxor64 _ _) (fun x51 ex51 rx51 => ?_)
  replace h := h x51 ex51
  refine q_lstore (lv' := [(8, .long (i64 x51)), (0, .ref hX1), (1, .long (i64 l1)), (4, .long (i64 l4))]) g 8   (by decide) rfl dX1_across_51 ?_
  refine q_lload g 8 0 rfl dX1_across_53 ?_
  refine q_callS (lev := 1) (mc := 0) (ms := 0) (As := [.long (i64 x51)]) g 54 (c_J13_bitCount_95d88 X.l X.D X.cI X.cJ X.zt x51 _ rx51 h) (wr := [(hX1, .inr (1, [.ref aX1_rows, .ref aX1_ones, .ref aX1_twos, .ref aX1_distances, .ref aX1_reached, .int (i32 f_swaps), .int (i32 f_there), .int (i32 f_size), .int (i32 f_mostShares), .int (i32 f_source), .int (i32 f_looked), .int (i32 f_ends)])), (aX1_rows, aL X.cJ 2001 f_rows), (aX1_ones, aL X.cJ 31 f_ones), (aX1_twos, aL X.cJ 31 f_twos)]) [] [0, 1, 2, 3] rfl rfl rfl (by decide) (by decide) (by decide) wM_X1_54 wT_J13_bitCount_95d88 wZ_J13 wC_J13_bitCount_95d88 1 rfl (by decide +kernel) (by rw [hR]; exact ⟨by show 1 + 1 ≤ 2; omega, by show 8 + (2 + 11) + 100 * 1 ≤ 100 * 2; omega⟩) (by rw [hR]; exact ⟨Nat.le_refl _, Nat.le_refl _⟩) (Nat.le_of_ble_eq_true rfl) rfl dX1_across_55 (fun rv w1 hq => ?_)
  obtain ⟨x55, rfl, rfl, rx55, h⟩ := hq
  show Wat X 0 0 58 [(8, .long (i64 x51)), (0, .ref hX1), (1, .long (i64 l1)), (4, .long (i64 l4))] [.int (i32 x55)] [(hX1, .inr (1, [.ref aX1_rows, .ref aX1_ones, .ref aX1_twos, .ref aX1_distances, .ref aX1_reached, .int (i32 f_swaps), .int (i32 f_there), .int (i32 f_size), .int (i32 f_mostShares), .int (i32 f_source), .int (i32 f_looked), .int (i32 f_ends)])), (aX1_rows, aL X.cJ 2001 f_rows), (aX1_ones, aL X.cJ 31 f_ones), (aX1_twos, aL X.cJ 31 f_twos)]
  refine q_aload_n g 0 1 rfl dX1_across_58 ?_
  refine q_get (C := RX1) (T := TX1) (N := 12) g 48 inX1 0 8 rfl rfl (by decide) wF_X1_48 rfl dX1_across_59 ?_
  refine q_icmp_le g (7) 69 rx55 r_f_mostShares (by decide) dX1_across_62 (fun b62 => ?_) (fun b62 => ?_)
  · replace h := h.1 b62
    refine q_aload_n g 0 1 rfl dX1_across_69 ?_
    refine q_lload g 8 0 rfl dX1_across_70 ?_
    refine q_callV (lev := 1) (mc := 0) (ms := 0) g 87 (c_X1_placeOf X.l X.D X.cI X.cJ X.zt hX1 aX1_rows aX1_ones aX1_twos aX1_distances aX1_reached f_swaps f_there f_size f_mostShares f_source f_looked f_ends f_rows x51 _ r_f_rows r_f_size rx51 h) (wr := [(aX1_ones, aL X.cJ 31 f_ones), (aX1_twos, aL X.cJ 31 f_twos)]) [0, 1] [2, 3] rfl rfl rfl (by decide) (by decide) (by decide) (ci := 1) rfl rfl rfl wM_X1_87 wI_X1_placeOf wS_X1_placeOf wZ_X1 wC_X1_placeOf 1 rfl (by decide +kernel) (by rw [hR]; exact ⟨by show 1 + 1 ≤ 2; omega, by show 8 + (7 + 11) + 100 * 1 ≤ 100 * 2; omega⟩) (by rw [hR]; exact ⟨Nat.le_refl _, Nat.le_refl _⟩) (Nat.le_of_ble_eq_true rfl) rfl dX1_across_72 (fun rv w1 hq => ?_)
    obtain ⟨x72, rfl, rfl, rx72, h⟩ := hq
    refine q_ws (ws' := [(hX1, .inr (1, [.ref aX1_rows, .ref aX1_ones, .ref aX1_twos, .ref aX1_distances, .ref aX1_reached, .int (i32 f_swaps), .int (i32 f_there), .int (i32 f_size), .int (i32 f_mostShares), .int (i32 f_source), .int (i32 f_looked), .int (i32 f_ends)])), (aX1_rows, aL X.cJ 2001 f_rows), (aX1_ones, aL X.cJ 31 f_ones), (aX1_twos, aL X.cJ 31 f_twos)]) [2, 3, 0, 1] (by decide) rfl rfl ?_
    show Wat X 0 0 75 [(8, .long (i64 x51)), (0, .ref hX1), (1, .long (i64 l1)), (4, .long (i64 l4))] [.int (i32 x72)] [(hX1, .inr (1, [.ref aX1_rows, .ref aX1_ones, .ref aX1_twos, .ref aX1_distances, .ref aX1_reached, .int (i32 f_swaps), .int (i32 f_there), .int (i32 f_size), .int (i32 f_mostShares), .int (i32 f_source), .int (i32 f_looked), .int (i32 f_ends)])), (aX1_rows, aL X.cJ 2001 f_rows), (aX1_ones, aL X.cJ 31 f_ones), (aX1_twos, aL X.cJ 31 f_twos)]
    refine q_lv (lv' := []) [] rfl ?_
    exact s_X1_across_75 g hR hX1 aX1_rows aX1_ones aX1_twos aX1_distances aX1_reached f_swaps f_there f_source f_looked f_ends f_rows f_ones f_twos f_size f_mostShares r_f_rows r_f_ones r_f_twos r_f_size r_f_mostShares Q hF x72 rx72 h
  replace h := h.2 b62
  refine q_iconst g (-1) dX1_across_65 ?_
  refine q_goto g (9) 75 (by decide) dX1_across_66 ?_
  refine q_lv (lv' := []) [] rfl ?_
  exact s_X1_across_75 g hR hX1 aX1_rows aX1_ones aX1_twos aX1_distances aX1_reached f_swaps f_there f_source f_looked f_ends f_rows f_ones f_twos f_size f_mostShares r_f_rows r_f_ones r_f_twos r_f_size r_f_mostShares Q hF (-1) (r32_lit _ (by decide)) h
def wp_X1_across (Q : Int → Prop) (f_rows : Int → Int) (f_ones : Int → Int) (f_twos : Int → Int) (f_size : Int) (f_mostShares : Int) (l1 : Int) (l3 : Int) : Prop := (0 ≤ l3 ∧ l3 < 31 ∧ 0 ≤ l3 ∧ l3 < 31 ∧ ∀ x13 : Int, x13 = (lor64 (f_ones l3) (f_twos l3)) → ∀ x19 : Int, x19 = (land64 l1 x13) → 0 ≤ l3 ∧ l3 < 31 ∧ ((x19 = (f_ones l3) → wp_X1_across_47 Q f_rows f_ones f_twos f_size f_mostShares l1 x13) ∧
  (¬ (x19 = (f_ones l3)) → (0 ≤ l3 ∧ l3 < 31 ∧ ((x19 = (f_twos l3) → wp_X1_across_47 Q f_rows f_ones f_twos f_size f_mostShares l1 x13) ∧
  (¬ (x19 = (f_twos l3)) → Q (-1)))))))
set_option maxHeartbeats 4000000 in
set_option maxRecDepth 100000 in
theorem c_X1_across (l : Launch) (D : va_G) (cI cJ : ClassId) (zt : Nat) (hX1 : Nat) (aX1_rows : Nat) (aX1_ones : Nat) (aX1_twos : Nat) (aX1_distances : Nat) (aX1_reached : Nat) (f_swaps : Int) (f_there : Int) (f_size : Int) (f_mostShares : Int) (f_source : Int) (f_looked : Int) (f_ends : Int) (f_rows : Int → Int) (f_ones : Int → Int) (f_twos : Int → Int) (l1 : Int) (l3 : Int) (Q : Int → Prop) (r_f_rows : rr64 f_rows) (r_f_ones : rr64 f_ones) (r_f_twos : rr64 f_twos) (r_f_size : r32 f_size) (r_f_mostShares : r32 f_mostShares) (r_l1 : r64 l1) (r_l3 : r32 l3) (h : wp_X1_across Q f_rows f_ones f_twos f_size f_mostShares l1 l3) : Ct l D cI cJ zt yX1_across cX1_across 10 (some .int) 2 0 0 [.ref hX1, .long (i64 l1), .int (i32 l3)] [(hX1, .inr (1, [.ref aX1_rows, .ref aX1_ones, .ref aX1_twos, .ref aX1_distances, .ref aX1_reached, .int (i32 f_swaps), .int (i32 f_there), .int (i32 f_size), .int (i32 f_mostShares), .int (i32 f_source), .int (i32 f_looked), .int (i32 f_ends)])), (aX1_rows, aL cJ 2001 f_rows), (aX1_ones, aL cJ 31 f_ones), (aX1_twos, aL cJ 31 f_twos)] (po_X1_across cI cJ hX1 aX1_rows aX1_ones aX1_twos aX1_distances aX1_reached f_swaps f_there f_size f_mostShares f_source f_looked f_ends f_rows f_ones f_twos Q) := by
  refine ct_of (by decide +kernel) (Nat.le_of_ble_eq_true rfl) (fun X hl hDD hcI hcJ hzt hR hF hnm g => ?_)
  subst hl; subst hDD; subst hcI; subst hcJ; subst hzt
  show Wat X 0 0 0 [(0, .ref hX1), (1, .long (i64 l1)), (3, .int (i32 l3))] [] [(hX1, .inr (1, [.ref aX1_rows, .ref aX1_ones, .ref aX1_twos, .ref aX1_distances, .ref aX1_reached, .int (i32 f_swaps), .int (i32 f_there), .int (i32 f_size), .int (i32 f_mostShares), .int (i32 f_source), .int (i32 f_looked), .int (i32 f_ends)])), (aX1_rows, aL X.cJ 2001 f_rows), (aX1_ones, aL X.cJ 31 f_ones), (aX1_twos, aL X.cJ 31 f_twos)]
  replace g : Gd X cX1_across RX1 (some .int) 10 := g
  rw [wp_X1_across] at h
  refine q_aload_n g 0 0 rfl dX1_across_0 ?_
  refine q_get (C := RX1) (T := TX1) (N := 12) g 15 inX1 0 1 rfl rfl (by decide) wF_X1_15 rfl dX1_across_1 ?_
  refine q_iload_n g 3 2 rfl dX1_across_4 ?_
  obtain ⟨c5, h⟩ := h
  obtain ⟨e5, h⟩ := h
  refine q_lald g 2 rfl c5 e5 (by decide) dX1_across_5 ?_
  refine q_aload_n g 0 0 rfl dX1_across_6 ?_
  refine q_get (C := RX1) (T := TX1) (N := 12) g 18 inX1 0 2 rfl rfl (by decide) wF_X1_18 rfl dX1_across_7 ?_
  refine q_iload_n g 3 2 rfl dX1_across_10 ?_
  obtain ⟨c11, h⟩ := h
  obtain ⟨e11, h⟩ := h
  refine q_lald g 3 rfl c11 e11 (by decide) dX1_across_11 ?_
  refine q_lor g dX1_across_12 ?_
  refine q_topl (r_lor64 _ _) (fun x13 ex13 rx13 => ?_)
  replace h := h x13 ex13
  refine q_lstore (lv' := [(4, .long (i64 x13)), (0, .ref hX1), (1, .long (i64 l1)), (3, .int (i32 l3))]) g 4   (by decide) rfl dX1_across_13 ?_
  refine q_lload_n g 1 2 rfl dX1_across_15 ?_
  refine q_lload g 4 0 rfl dX1_across_16 ?_
  refine q_land g dX1_across_18 ?_
  refine q_topl (r_land64 _ _) (fun x19 ex19 rx19 => ?_)
  replace h := h x19 ex19
  refine q_lstore (lv' := [(6, .long (i64 x19)), (4, .long (i64 x13)), (0, .ref hX1), (1, .long (i64 l1)), (3, .int (i32 l3))]) g 6   (by decide) rfl dX1_across_19 ?_
  refine q_lload g 6 0 rfl dX1_across_21 ?_
  refine q_aload_n g 0 2 rfl dX1_across_23 ?_
  refine q_get (C := RX1) (T := TX1) (N := 12) g 15 inX1 0 1 rfl rfl (by decide) wF_X1_15 rfl dX1_across_24 ?_
  refine q_iload_n g 3 4 rfl dX1_across_27 ?_
  obtain ⟨c28, h⟩ := h
  obtain ⟨e28, h⟩ := h
  refine q_lald g 2 rfl c28 e28 (by decide) dX1_across_28 ?_
  refine q_lcmp_eq g (17) 47 rx19 (r_f_ones _) (by decide) dX1_across_29 dX1_across_30 (fun b29 => ?_) (fun b29 => ?_)
  · replace h := h.1 b29
    refine q_lv (lv' := [(0, .ref hX1), (1, .long (i64 l1)), (4, .long (i64 x13))]) [2, 3, 1] rfl ?_
    exact s_X1_across_47 g hR hX1 aX1_rows aX1_ones aX1_twos aX1_distances aX1_reached f_swaps f_there f_source f_looked f_ends f_rows f_ones f_twos f_size f_mostShares r_f_rows r_f_ones r_f_twos r_f_size r_f_mostShares Q hF l1 x13 r_l1 rx13 h
  replace h := h.2 b29
  refine q_lload g 6 0 rfl dX1_across_33 ?_
  refine q_aload_n g 0 2 rfl dX1_across_35 ?_
  refine q_get (C := RX1) (T := TX1) (N := 12) g 18 inX1 0 2 rfl rfl (by decide) wF_X1_18 rfl dX1_across_36 ?_
  refine q_iload_n g 3 4 rfl dX1_across_39 ?_
  obtain ⟨c40, h⟩ := h
  obtain ⟨e40, h⟩ := h
  refine q_lald g 3 rfl c40 e40 (by decide) dX1_across_40 ?_
  refine q_lcmp_eq g (5) 47 rx19 (r_f_twos _) (by decide) dX1_across_41 dX1_across_42 (fun b41 => ?_) (fun b41 => ?_)
  · replace h := h.1 b41
    refine q_lv (lv' := [(0, .ref hX1), (1, .long (i64 l1)), (4, .long (i64 x13))]) [2, 3, 1] rfl ?_
    exact s_X1_across_47 g hR hX1 aX1_rows aX1_ones aX1_twos aX1_distances aX1_reached f_swaps f_there f_source f_looked f_ends f_rows f_ones f_twos f_size f_mostShares r_f_rows r_f_ones r_f_twos r_f_size r_f_mostShares Q hF l1 x13 r_l1 rx13 h
  replace h := h.2 b41
  refine q_iconst g (-1) dX1_across_45 ?_
  exact q_iret g hF ⟨(-1), rfl, rfl, (r32_lit _ (by decide)), h⟩ dX1_across_46
theorem dX1_at_0 : decode cX1_at 0 = .ok (.iload_n 1, 1) := by decide +kernel
theorem dX1_at_1 : decode cX1_at 1 = .ok (.ifCond .lt 21, 3) := by decide +kernel
theorem dX1_at_4 : decode cX1_at 4 = .ok (.iload_n 1, 1) := by decide +kernel
theorem dX1_at_5 : decode cX1_at 5 = .ok (.aload_n 0, 1) := by decide +kernel
theorem dX1_at_6 : decode cX1_at 6 = .ok (.getfield 9, 3) := by decide +kernel
theorem dX1_at_9 : decode cX1_at 9 = .ok (.arraylength, 1) := by decide +kernel
theorem dX1_at_10 : decode cX1_at 10 = .ok (.if_icmp .ge 12, 3) := by decide +kernel
theorem dX1_at_13 : decode cX1_at 13 = .ok (.aload_n 0, 1) := by decide +kernel
theorem dX1_at_14 : decode cX1_at 14 = .ok (.getfield 9, 3) := by decide +kernel
theorem dX1_at_17 : decode cX1_at 17 = .ok (.iload_n 1, 1) := by decide +kernel
theorem dX1_at_18 : decode cX1_at 18 = .ok (.laload, 1) := by decide +kernel
theorem dX1_at_19 : decode cX1_at 19 = .ok (.goto 4, 3) := by decide +kernel
theorem dX1_at_22 : decode cX1_at 22 = .ok (.lconst 0, 1) := by decide +kernel
theorem dX1_at_23 : decode cX1_at 23 = .ok (.lreturn, 1) := by decide +kernel
abbrev po_X1_at (cI cJ : ClassId) (hX1 : Nat) (aX1_rows : Nat) (aX1_ones : Nat) (aX1_twos : Nat) (aX1_distances : Nat) (aX1_reached : Nat) (f_swaps : Int) (f_there : Int) (f_size : Int) (f_mostShares : Int) (f_source : Int) (f_looked : Int) (f_ends : Int) (f_rows : Int → Int) (Q : Int → Prop) : Option Value → va_W → Prop := fun rv w1 => ∃ (r0 : Int), rv = some (.long (i64 r0)) ∧ w1 = [(hX1, .inr (1, [.ref aX1_rows, .ref aX1_ones, .ref aX1_twos, .ref aX1_distances, .ref aX1_reached, .int (i32 f_swaps), .int (i32 f_there), .int (i32 f_size), .int (i32 f_mostShares), .int (i32 f_source), .int (i32 f_looked), .int (i32 f_ends)])), (aX1_rows, aL cJ 2001 f_rows)] ∧ r64 r0 ∧ Q r0
def wp_X1_at_23 (Q : Int → Prop) (f_rows : Int → Int) (k0 : Int) : Prop := Q k0
set_option maxHeartbeats 4000000 in
set_option maxRecDepth 100000 in
theorem s_X1_at_23 {X : Cx} (g : Gd X cX1_at RX1 (some .long) 2) (hR : X.R = rmL 1 0 0) (hX1 : Nat) (aX1_rows : Nat) (aX1_ones : Nat) (aX1_twos : Nat) (aX1_distances : Nat) (aX1_reached : Nat) (f_swaps : Int) (f_there : Int) (f_size : Int) (f_mostShares : Int) (f_source : Int) (f_looked : Int) (f_ends : Int) (f_rows : Int → Int) (r_f_rows : rr64 f_rows) (Q : Int → Prop) (hF : FQ X 0 0 (po_X1_at X.cI X.cJ hX1 aX1_rows aX1_ones aX1_twos aX1_distances aX1_reached f_swaps f_there f_size f_mostShares f_source f_looked f_ends f_rows Q)) : ∀ (k0 : Int), r64 k0 → wp_X1_at_23 Q f_rows k0 → Wat X 0 0 23 [] [.long (i64 k0)] [(hX1, .inr (1, [.ref aX1_rows, .ref aX1_ones, .ref aX1_twos, .ref aX1_distances, .ref aX1_reached, .int (i32 f_swaps), .int (i32 f_there), .int (i32 f_size), .int (i32 f_mostShares), .int (i32 f_source), .int (i32 f_looked), .int (i32 f_ends)])), (aX1_rows, aL X.cJ 2001 f_rows)] := by
  intro k0 r_k0 h
  rw [wp_X1_at_23] at h
  exact q_lret g hF ⟨k0, rfl, rfl, r_k0, h⟩ dX1_at_23
def wp_X1_at_22 (Q : Int → Prop) (f_rows : Int → Int) : Prop := wp_X1_at_23 Q f_rows 0
set_option maxHeartbeats 4000000 in
set_option maxRecDepth 100000 in
theorem s_X1_at_22 {X : Cx} (g : Gd X cX1_at RX1 (some .long) 2) (hR : X.R = rmL 1 0 0) (hX1 : Nat) (aX1_rows : Nat) (aX1_ones : Nat) (aX1_twos : Nat) (aX1_distances : Nat) (aX1_reached : Nat) (f_swaps : Int) (f_there : Int) (f_size : Int) (f_mostShares : Int) (f_source : Int) (f_looked : Int) (f_ends : Int) (f_rows : Int → Int) (r_f_rows : rr64 f_rows) (Q : Int → Prop) (hF : FQ X 0 0 (po_X1_at X.cI X.cJ hX1 aX1_rows aX1_ones aX1_twos aX1_distances aX1_reached f_swaps f_there f_size f_mostShares f_source f_looked f_ends f_rows Q)) : wp_X1_at_22 Q f_rows → Wat X 0 0 22 [] [] [(hX1, .inr (1, [.ref aX1_rows, .ref aX1_ones, .ref aX1_twos, .ref aX1_distances, .ref aX1_reached, .int (i32 f_swaps), .int (i32 f_there), .int (i32 f_size), .int (i32 f_mostShares), .int (i32 f_source), .int (i32 f_looked), .int (i32 f_ends)])), (aX1_rows, aL X.cJ 2001 f_rows)] := by
  intro h
  rw [wp_X1_at_22] at h
  refine q_lconst g 0 0 rfl dX1_at_22 ?_
  exact s_X1_at_23 g hR hX1 aX1_rows aX1_ones aX1_twos aX1_distances aX1_reached f_swaps f_there f_size f_mostShares f_source f_looked f_ends f_rows r_f_rows Q hF 0 (r64_lit _ (by decide)) h
def wp_X1_at (Q : Int → Prop) (f_rows : Int → Int) (l1 : Int) : Prop := ((l1 < 0 → wp_X1_at_22 Q f_rows) ∧
  (¬ (l1 < 0) → ((2001 ≤ l1 → wp_X1_at_22 Q f_rows) ∧
  (¬ (2001 ≤ l1) → (0 ≤ l1 ∧ l1 < 2001 ∧ wp_X1_at_23 Q f_rows (f_rows l1))))))
set_option maxHeartbeats 4000000 in
set_option maxRecDepth 100000 in
theorem c_X1_at (l : Launch) (D : va_G) (cI cJ : ClassId) (zt : Nat) (hX1 : Nat) (aX1_rows : Nat) (aX1_ones : Nat) (aX1_twos : Nat) (aX1_distances : Nat) (aX1_reached : Nat) (f_swaps : Int) (f_there : Int) (f_size : Int) (f_mostShares : Int) (f_source : Int) (f_looked : Int) (f_ends : Int) (f_rows : Int → Int) (l1 : Int) (Q : Int → Prop) (r_f_rows : rr64 f_rows) (r_l1 : r32 l1) (h : wp_X1_at Q f_rows l1) : Ct l D cI cJ zt yX1_at cX1_at 2 (some .long) 1 0 0 [.ref hX1, .int (i32 l1)] [(hX1, .inr (1, [.ref aX1_rows, .ref aX1_ones, .ref aX1_twos, .ref aX1_distances, .ref aX1_reached, .int (i32 f_swaps), .int (i32 f_there), .int (i32 f_size), .int (i32 f_mostShares), .int (i32 f_source), .int (i32 f_looked), .int (i32 f_ends)])), (aX1_rows, aL cJ 2001 f_rows)] (po_X1_at cI cJ hX1 aX1_rows aX1_ones aX1_twos aX1_distances aX1_reached f_swaps f_there f_size f_mostShares f_source f_looked f_ends f_rows Q) := by
  refine ct_of (by decide +kernel) (Nat.le_of_ble_eq_true rfl) (fun X hl hDD hcI hcJ hzt hR hF hnm g => ?_)
  subst hl; subst hDD; subst hcI; subst hcJ; subst hzt
  show Wat X 0 0 0 [(0, .ref hX1), (1, .int (i32 l1))] [] [(hX1, .inr (1, [.ref aX1_rows, .ref aX1_ones, .ref aX1_twos, .ref aX1_distances, .ref aX1_reached, .int (i32 f_swaps), .int (i32 f_there), .int (i32 f_size), .int (i32 f_mostShares), .int (i32 f_source), .int (i32 f_looked), .int (i32 f_ends)])), (aX1_rows, aL X.cJ 2001 f_rows)]
  replace g : Gd X cX1_at RX1 (some .long) 2 := g
  rw [wp_X1_at] at h
  refine q_iload_n g 1 1 rfl dX1_at_0 ?_
  refine q_if_lt g (21) 22 r_l1 (by decide) dX1_at_1 (fun b1 => ?_) (fun b1 => ?_)
  · replace h := h.1 b1
    refine q_lv (lv' := []) [] rfl ?_
    exact s_X1_at_22 g hR hX1 aX1_rows aX1_ones aX1_twos aX1_distances aX1_reached f_swaps f_there f_size f_mostShares f_source f_looked f_ends f_rows r_f_rows Q hF h
  replace h := h.2 b1
  refine q_iload_n g 1 1 rfl dX1_at_4 ?_
  refine q_aload_n g 0 0 rfl dX1_at_5 ?_
  refine q_get (C := RX1) (T := TX1) (N := 12) g 9 inX1 0 0 rfl rfl (by decide) wF_X1_9 rfl dX1_at_6 ?_
  refine q_alenL g 1 2001 rfl rfl dX1_at_9 ?_
  refine q_icmp_ge g (12) 22 r_l1 (r32_lit _ (by decide)) (by decide) dX1_at_10 (fun b10 => ?_) (fun b10 => ?_)
  · replace h := h.1 b10
    refine q_lv (lv' := []) [] rfl ?_
    exact s_X1_at_22 g hR hX1 aX1_rows aX1_ones aX1_twos aX1_distances aX1_reached f_swaps f_there f_size f_mostShares f_source f_looked f_ends f_rows r_f_rows Q hF h
  replace h := h.2 b10
  refine q_aload_n g 0 0 rfl dX1_at_13 ?_
  refine q_get (C := RX1) (T := TX1) (N := 12) g 9 inX1 0 0 rfl rfl (by decide) wF_X1_9 rfl dX1_at_14 ?_
  refine q_iload_n g 1 1 rfl dX1_at_17 ?_
  obtain ⟨c18, h⟩ := h
  obtain ⟨e18, h⟩ := h
  refine q_lald g 1 rfl c18 e18 (by decide) dX1_at_18 ?_
  refine q_goto g (4) 23 (by decide) dX1_at_19 ?_
  refine q_lv (lv' := []) [] rfl ?_
  exact s_X1_at_23 g hR hX1 aX1_rows aX1_ones aX1_twos aX1_distances aX1_reached f_swaps f_there f_size f_mostShares f_source f_looked f_ends f_rows r_f_rows Q hF (f_rows l1) (r_f_rows _) h
theorem dX1_countShares_0 : decode cX1_countShares 0 = .ok (.iconst 0, 1) := by decide +kernel
theorem dX1_countShares_1 : decode cX1_countShares 1 = .ok (.istore_n 1, 1) := by decide +kernel
theorem dX1_countShares_2 : decode cX1_countShares 2 = .ok (.iconst 0, 1) := by decide +kernel
theorem dX1_countShares_3 : decode cX1_countShares 3 = .ok (.istore_n 2, 1) := by decide +kernel
theorem dX1_countShares_4 : decode cX1_countShares 4 = .ok (.iload_n 2, 1) := by decide +kernel
theorem dX1_countShares_5 : decode cX1_countShares 5 = .ok (.aload_n 0, 1) := by decide +kernel
theorem dX1_countShares_6 : decode cX1_countShares 6 = .ok (.getfield 45, 3) := by decide +kernel
theorem dX1_countShares_9 : decode cX1_countShares 9 = .ok (.if_icmp .ge 20, 3) := by decide +kernel
theorem dX1_countShares_12 : decode cX1_countShares 12 = .ok (.iload_n 1, 1) := by decide +kernel
theorem dX1_countShares_13 : decode cX1_countShares 13 = .ok (.aload_n 0, 1) := by decide +kernel
theorem dX1_countShares_14 : decode cX1_countShares 14 = .ok (.iload_n 2, 1) := by decide +kernel
theorem dX1_countShares_15 : decode cX1_countShares 15 = .ok (.invokevirtual 51, 3) := by decide +kernel
theorem dX1_countShares_18 : decode cX1_countShares 18 = .ok (.invokestatic 54, 3) := by decide +kernel
theorem dX1_countShares_21 : decode cX1_countShares 21 = .ok (.iadd, 1) := by decide +kernel
theorem dX1_countShares_22 : decode cX1_countShares 22 = .ok (.istore_n 1, 1) := by decide +kernel
theorem dX1_countShares_23 : decode cX1_countShares 23 = .ok (.iinc 2 1, 3) := by decide +kernel
theorem dX1_countShares_26 : decode cX1_countShares 26 = .ok (.goto (-22), 3) := by decide +kernel
theorem dX1_countShares_29 : decode cX1_countShares 29 = .ok (.iload_n 1, 1) := by decide +kernel
theorem dX1_countShares_30 : decode cX1_countShares 30 = .ok (.ireturn, 1) := by decide +kernel
abbrev po_X1_countShares (cI cJ : ClassId) (hX1 : Nat) (aX1_rows : Nat) (aX1_ones : Nat) (aX1_twos : Nat) (aX1_distances : Nat) (aX1_reached : Nat) (f_swaps : Int) (f_there : Int) (f_size : Int) (f_mostShares : Int) (f_source : Int) (f_looked : Int) (f_ends : Int) (f_rows : Int → Int) (Q : Int → Prop) : Option Value → va_W → Prop := fun rv w1 => ∃ (r0 : Int), rv = some (.int (i32 r0)) ∧ w1 = [(hX1, .inr (1, [.ref aX1_rows, .ref aX1_ones, .ref aX1_twos, .ref aX1_distances, .ref aX1_reached, .int (i32 f_swaps), .int (i32 f_there), .int (i32 f_size), .int (i32 f_mostShares), .int (i32 f_source), .int (i32 f_looked), .int (i32 f_ends)])), (aX1_rows, aL cJ 2001 f_rows)] ∧ r32 r0 ∧ Q r0
def wp_X1_countShares_4 (Q : Int → Prop) (f_rows : Int → Int) (f_size : Int) : Nat → Int → Int → Prop
  | 0, _, _ => False
  | n + 1, l1, l2 => ((f_size ≤ l2 → Q l1) ∧
  (¬ (f_size ≤ l2) → wp_X1_at (fun (x15 : Int) => wp_J13_bitCount_95d88 (fun (x18 : Int) => (r32 (l1 + x18) ∧ ∀ x22 : Int, x22 = (l1 + x18) → r32 (l2 + 1) ∧ wp_X1_countShares_4 Q f_rows f_size n x22 (l2 + 1))) x15) f_rows l2))
set_option maxHeartbeats 4000000 in
set_option maxRecDepth 100000 in
theorem s_X1_countShares_4 {X : Cx} (g : Gd X cX1_countShares RX1 (some .int) 3) (hR : X.R = rmL 2 0 0) (hX1 : Nat) (aX1_rows : Nat) (aX1_ones : Nat) (aX1_twos : Nat) (aX1_distances : Nat) (aX1_reached : Nat) (f_swaps : Int) (f_there : Int) (f_mostShares : Int) (f_source : Int) (f_looked : Int) (f_ends : Int) (f_rows : Int → Int) (f_size : Int) (r_f_rows : rr64 f_rows) (r_f_size : r32 f_size) (Q : Int → Prop) (hF : FQ X 0 0 (po_X1_countShares X.cI X.cJ hX1 aX1_rows aX1_ones aX1_twos aX1_distances aX1_reached f_swaps f_there f_size f_mostShares f_source f_looked f_ends f_rows Q)) : ∀ (n : Nat) (l1 : Int) (l2 : Int), r32 l1 → r32 l2 → wp_X1_countShares_4 Q f_rows f_size n l1 l2 → Wat X 0 0 4 [(0, .ref hX1), (1, .int (i32 l1)), (2, .int (i32 l2))] [] [(hX1, .inr (1, [.ref aX1_rows, .ref aX1_ones, .ref aX1_twos, .ref aX1_distances, .ref aX1_reached, .int (i32 f_swaps), .int (i32 f_there), .int (i32 f_size), .int (i32 f_mostShares), .int (i32 f_source), .int (i32 f_looked), .int (i32 f_ends)])), (aX1_rows, aL X.cJ 2001 f_rows)] := by
  intro n
  induction n with
  | zero => intro l1 l2 r_l1 r_l2 h; exact False.elim h
  | succ n ih =>
    intro l1 l2 r_l1 r_l2 h
    rw [wp_X1_countShares_4] at h
    refine q_iload_n g 2 2 rfl dX1_countShares_4 ?_
    refine q_aload_n g 0 0 rfl dX1_countShares_5 ?_
    refine q_get (C := RX1) (T := TX1) (N := 12) g 45 inX1 0 7 rfl rfl (by decide) wF_X1_45 rfl dX1_countShares_6 ?_
    refine q_icmp_ge g (20) 29 r_l2 r_f_size (by decide) dX1_countShares_9 (fun b9 => ?_) (fun b9 => ?_)
    · replace h := h.1 b9
      refine q_iload_n g 1 1 rfl dX1_countShares_29 ?_
      exact q_iret g hF ⟨l1, rfl, rfl, r_l1, h⟩ dX1_countShares_30
    replace h := h.2 b9
    refine q_iload_n g 1 1 rfl dX1_countShares_12 ?_
    refine q_aload_n g 0 0 rfl dX1_countShares_13 ?_
    refine q_iload_n g 2 2 rfl dX1_countShares_14 ?_
    refine q_callV (lev := 1) (mc := 0) (ms := 0) g 51 (c_X1_at X.l X.D X.cI X.cJ X.zt hX1 aX1_rows aX1_ones aX1_twos aX1_distances aX1_reached f_swaps f_there f_size f_mostShares f_source f_looked f_ends f_rows l2 _ r_f_rows r_l2 h) (wr := []) [0, 1] [] rfl rfl rfl (by decide) (by decide) (by decide) (ci := 1) rfl rfl rfl wM_X1_51 wI_X1_at wS_X1_at wZ_X1 wC_X1_at 1 rfl (by decide +kernel) (by rw [hR]; exact ⟨by show 1 + 1 ≤ 2; omega, by show 8 + (2 + 11) + 100 * 1 ≤ 100 * 2; omega⟩) (by rw [hR]; exact ⟨Nat.le_refl _, Nat.le_refl _⟩) (Nat.le_of_ble_eq_true rfl) rfl dX1_countShares_15 (fun rv w1 hq => ?_)
    obtain ⟨x15, rfl, rfl, rx15, h⟩ := hq
    show Wat X 0 0 18 [(0, .ref hX1), (1, .int (i32 l1)), (2, .int (i32 l2))] [.long (i64 x15), .int (i32 l1)] [(hX1, .inr (1, [.ref aX1_rows, .ref aX1_ones, .ref aX1_twos, .ref aX1_distances, .ref aX1_reached, .int (i32 f_swaps), .int (i32 f_there), .int (i32 f_size), .int (i32 f_mostShares), .int (i32 f_source), .int (i32 f_looked), .int (i32 f_ends)])), (aX1_rows, aL X.cJ 2001 f_rows)]
    refine q_callS (lev := 1) (mc := 0) (ms := 0) (As := [.long (i64 x15)]) g 54 (c_J13_bitCount_95d88 X.l X.D X.cI X.cJ X.zt x15 _ rx15 h) (wr := [(hX1, .inr (1, [.ref aX1_rows, .ref aX1_ones, .ref aX1_twos, .ref aX1_distances, .ref aX1_reached, .int (i32 f_swaps), .int (i32 f_there), .int (i32 f_size), .int (i32 f_mostShares), .int (i32 f_source), .int (i32 f_looked), .int (i32 f_ends)])), (aX1_rows, aL X.cJ 2001 f_rows)]) [] [0, 1] rfl rfl rfl (by decide) (by decide) (by decide) wM_X1_54 wT_J13_bitCount_95d88 wZ_J13 wC_J13_bitCount_95d88 1 rfl (by decide +kernel) (by rw [hR]; exact ⟨by show 1 + 1 ≤ 2; omega, by show 8 + (2 + 11) + 100 * 1 ≤ 100 * 2; omega⟩) (by rw [hR]; exact ⟨Nat.le_refl _, Nat.le_refl _⟩) (Nat.le_of_ble_eq_true rfl) rfl dX1_countShares_18 (fun rv w1 hq => ?_)
    obtain ⟨x18, rfl, rfl, rx18, h⟩ := hq
    show Wat X 0 0 21 [(0, .ref hX1), (1, .int (i32 l1)), (2, .int (i32 l2))] [.int (i32 x18), .int (i32 l1)] [(hX1, .inr (1, [.ref aX1_rows, .ref aX1_ones, .ref aX1_twos, .ref aX1_distances, .ref aX1_reached, .int (i32 f_swaps), .int (i32 f_there), .int (i32 f_size), .int (i32 f_mostShares), .int (i32 f_source), .int (i32 f_looked), .int (i32 f_ends)])), (aX1_rows, aL X.cJ 2001 f_rows)]
    obtain ⟨c21, h⟩ := h
    refine q_iadd g dX1_countShares_21 ?_
    refine q_topi c21 (fun x22 ex22 rx22 => ?_)
    replace h := h x22 ex22
    refine q_istore_n (lv' := [(1, .int (i32 x22)), (0, .ref hX1), (2, .int (i32 l2))]) g 1 1 rfl (by decide) rfl dX1_countShares_22 ?_
    obtain ⟨c23, h⟩ := h
    refine q_iinc (lv' := [(2, .int (i32 (l2 + 1))), (1, .int (i32 x22)), (0, .ref hX1)]) g 2 2 1 (by decide) rfl rfl dX1_countShares_23 ?_
    refine q_goto g (-22) 4 (by decide) dX1_countShares_26 ?_
    refine q_lv (lv' := [(0, .ref hX1), (1, .int (i32 x22)), (2, .int (i32 (l2 + 1)))]) [2, 1, 0] rfl ?_
    exact ih x22 (l2 + 1) rx22 c23 h
def wp_X1_countShares (Q : Int → Prop) (f_rows : Int → Int) (f_size : Int) : Prop := (∃ n0 : Nat, wp_X1_countShares_4 Q f_rows f_size n0 0 0)
set_option maxHeartbeats 4000000 in
set_option maxRecDepth 100000 in
theorem c_X1_countShares (l : Launch) (D : va_G) (cI cJ : ClassId) (zt : Nat) (hX1 : Nat) (aX1_rows : Nat) (aX1_ones : Nat) (aX1_twos : Nat) (aX1_distances : Nat) (aX1_reached : Nat) (f_swaps : Int) (f_there : Int) (f_size : Int) (f_mostShares : Int) (f_source : Int) (f_looked : Int) (f_ends : Int) (f_rows : Int → Int) (Q : Int → Prop) (r_f_rows : rr64 f_rows) (r_f_size : r32 f_size) (h : wp_X1_countShares Q f_rows f_size) : Ct l D cI cJ zt yX1_countShares cX1_countShares 3 (some .int) 2 0 0 [.ref hX1] [(hX1, .inr (1, [.ref aX1_rows, .ref aX1_ones, .ref aX1_twos, .ref aX1_distances, .ref aX1_reached, .int (i32 f_swaps), .int (i32 f_there), .int (i32 f_size), .int (i32 f_mostShares), .int (i32 f_source), .int (i32 f_looked), .int (i32 f_ends)])), (aX1_rows, aL cJ 2001 f_rows)] (po_X1_countShares cI cJ hX1 aX1_rows aX1_ones aX1_twos aX1_distances aX1_reached f_swaps f_there f_size f_mostShares f_source f_looked f_ends f_rows Q) := by
  refine ct_of (by decide +kernel) (Nat.le_of_ble_eq_true rfl) (fun X hl hDD hcI hcJ hzt hR hF hnm g => ?_)
  subst hl; subst hDD; subst hcI; subst hcJ; subst hzt
  show Wat X 0 0 0 [(0, .ref hX1)] [] [(hX1, .inr (1, [.ref aX1_rows, .ref aX1_ones, .ref aX1_twos, .ref aX1_distances, .ref aX1_reached, .int (i32 f_swaps), .int (i32 f_there), .int (i32 f_size), .int (i32 f_mostShares), .int (i32 f_source), .int (i32 f_looked), .int (i32 f_ends)])), (aX1_rows, aL X.cJ 2001 f_rows)]
  replace g : Gd X cX1_countShares RX1 (some .int) 3 := g
  rw [wp_X1_countShares] at h
  refine q_iconst g (0) dX1_countShares_0 ?_
  refine q_istore_n (lv' := [(1, .int (i32 0)), (0, .ref hX1)]) g 1 1 rfl (by decide) rfl dX1_countShares_1 ?_
  refine q_iconst g (0) dX1_countShares_2 ?_
  refine q_istore_n (lv' := [(2, .int (i32 0)), (1, .int (i32 0)), (0, .ref hX1)]) g 2 2 rfl (by decide) rfl dX1_countShares_3 ?_
  refine q_lv (lv' := [(0, .ref hX1), (1, .int (i32 0)), (2, .int (i32 0))]) [2, 1, 0] rfl ?_
  obtain ⟨n0, h⟩ := h
  exact s_X1_countShares_4 g hR hX1 aX1_rows aX1_ones aX1_twos aX1_distances aX1_reached f_swaps f_there f_mostShares f_source f_looked f_ends f_rows f_size r_f_rows r_f_size Q hF n0 0 0 (r32_lit _ (by decide)) (r32_lit _ (by decide)) h
theorem dX1_reach_0 : decode cX1_reach 0 = .ok (.iload_n 1, 1) := by decide +kernel
theorem dX1_reach_1 : decode cX1_reach 1 = .ok (.ifCond .lt 60, 3) := by decide +kernel
theorem dX1_reach_4 : decode cX1_reach 4 = .ok (.iload_n 1, 1) := by decide +kernel
theorem dX1_reach_5 : decode cX1_reach 5 = .ok (.aload_n 0, 1) := by decide +kernel
theorem dX1_reach_6 : decode cX1_reach 6 = .ok (.getfield 21, 3) := by decide +kernel
theorem dX1_reach_9 : decode cX1_reach 9 = .ok (.arraylength, 1) := by decide +kernel
theorem dX1_reach_10 : decode cX1_reach 10 = .ok (.if_icmp .ge 51, 3) := by decide +kernel
theorem dX1_reach_13 : decode cX1_reach 13 = .ok (.aload_n 0, 1) := by decide +kernel
theorem dX1_reach_14 : decode cX1_reach 14 = .ok (.getfield 71, 3) := by decide +kernel
theorem dX1_reach_17 : decode cX1_reach 17 = .ok (.aload_n 0, 1) := by decide +kernel
theorem dX1_reach_18 : decode cX1_reach 18 = .ok (.getfield 25, 3) := by decide +kernel
theorem dX1_reach_21 : decode cX1_reach 21 = .ok (.arraylength, 1) := by decide +kernel
theorem dX1_reach_22 : decode cX1_reach 22 = .ok (.if_icmp .ge 39, 3) := by decide +kernel
theorem dX1_reach_25 : decode cX1_reach 25 = .ok (.aload_n 0, 1) := by decide +kernel
theorem dX1_reach_26 : decode cX1_reach 26 = .ok (.getfield 21, 3) := by decide +kernel
theorem dX1_reach_29 : decode cX1_reach 29 = .ok (.iload_n 1, 1) := by decide +kernel
theorem dX1_reach_30 : decode cX1_reach 30 = .ok (.iaload, 1) := by decide +kernel
theorem dX1_reach_31 : decode cX1_reach 31 = .ok (.ifCond .ge 30, 3) := by decide +kernel
theorem dX1_reach_34 : decode cX1_reach 34 = .ok (.aload_n 0, 1) := by decide +kernel
theorem dX1_reach_35 : decode cX1_reach 35 = .ok (.getfield 21, 3) := by decide +kernel
theorem dX1_reach_38 : decode cX1_reach 38 = .ok (.iload_n 1, 1) := by decide +kernel
theorem dX1_reach_39 : decode cX1_reach 39 = .ok (.iload_n 2, 1) := by decide +kernel
theorem dX1_reach_40 : decode cX1_reach 40 = .ok (.iastore, 1) := by decide +kernel
theorem dX1_reach_41 : decode cX1_reach 41 = .ok (.aload_n 0, 1) := by decide +kernel
theorem dX1_reach_42 : decode cX1_reach 42 = .ok (.getfield 25, 3) := by decide +kernel
theorem dX1_reach_45 : decode cX1_reach 45 = .ok (.aload_n 0, 1) := by decide +kernel
theorem dX1_reach_46 : decode cX1_reach 46 = .ok (.getfield 71, 3) := by decide +kernel
theorem dX1_reach_49 : decode cX1_reach 49 = .ok (.iload_n 1, 1) := by decide +kernel
theorem dX1_reach_50 : decode cX1_reach 50 = .ok (.iastore, 1) := by decide +kernel
theorem dX1_reach_51 : decode cX1_reach 51 = .ok (.aload_n 0, 1) := by decide +kernel
theorem dX1_reach_52 : decode cX1_reach 52 = .ok (.dup, 1) := by decide +kernel
theorem dX1_reach_53 : decode cX1_reach 53 = .ok (.getfield 71, 3) := by decide +kernel
theorem dX1_reach_56 : decode cX1_reach 56 = .ok (.iconst 1, 1) := by decide +kernel
theorem dX1_reach_57 : decode cX1_reach 57 = .ok (.iadd, 1) := by decide +kernel
theorem dX1_reach_58 : decode cX1_reach 58 = .ok (.putfield 71, 3) := by decide +kernel
theorem dX1_reach_61 : decode cX1_reach 61 = .ok (.return_, 1) := by decide +kernel
abbrev po_X1_reach (cI cJ : ClassId) (hX1 : Nat) (aX1_rows : Nat) (aX1_ones : Nat) (aX1_twos : Nat) (aX1_distances : Nat) (aX1_reached : Nat) (f_swaps : Int) (f_there : Int) (f_size : Int) (f_mostShares : Int) (f_source : Int) (f_looked : Int) (Q : (Int → Int) → (Int → Int) → Int → Prop) : Option Value → va_W → Prop := fun rv w1 => ∃ (f_distances : Int → Int) (f_reached : Int → Int) (f_ends : Int), rv = none ∧ w1 = [(hX1, .inr (1, [.ref aX1_rows, .ref aX1_ones, .ref aX1_twos, .ref aX1_distances, .ref aX1_reached, .int (i32 f_swaps), .int (i32 f_there), .int (i32 f_size), .int (i32 f_mostShares), .int (i32 f_source), .int (i32 f_looked), .int (i32 f_ends)])), (aX1_distances, aI cI 2000 f_distances), (aX1_reached, aI cI 2000 f_reached)] ∧ rr32 f_distances ∧ rr32 f_reached ∧ r32 f_ends ∧ Q f_distances f_reached f_ends
def wp_X1_reach_61 (Q : (Int → Int) → (Int → Int) → Int → Prop) (f_distances : Int → Int) (f_reached : Int → Int) (f_ends : Int) : Prop := Q f_distances f_reached f_ends
set_option maxHeartbeats 4000000 in
set_option maxRecDepth 100000 in
theorem s_X1_reach_61 {X : Cx} (g : Gd X cX1_reach RX1 none 3) (hR : X.R = rmL 1 0 0) (hX1 : Nat) (aX1_rows : Nat) (aX1_ones : Nat) (aX1_twos : Nat) (aX1_distances : Nat) (aX1_reached : Nat) (f_swaps : Int) (f_there : Int) (f_size : Int) (f_mostShares : Int) (f_source : Int) (f_looked : Int) (Q : (Int → Int) → (Int → Int) → Int → Prop) (hF : FQ X 0 0 (po_X1_reach X.cI X.cJ hX1 aX1_rows aX1_ones aX1_twos aX1_distances aX1_reached f_swaps f_there f_size f_mostShares f_source f_looked Q)) : ∀ (f_distances : Int → Int) (f_reached : Int → Int) (f_ends : Int), rr32 f_distances → rr32 f_reached → r32 f_ends → wp_X1_reach_61 Q f_distances f_reached f_ends → Wat X 0 0 61 [] [] [(hX1, .inr (1, [.ref aX1_rows, .ref aX1_ones, .ref aX1_twos, .ref aX1_distances, .ref aX1_reached, .int (i32 f_swaps), .int (i32 f_there), .int (i32 f_size), .int (i32 f_mostShares), .int (i32 f_source), .int (i32 f_looked), .int (i32 f_ends)])), (aX1_distances, aI X.cI 2000 f_distances), (aX1_reached, aI X.cI 2000 f_reached)] := by
  intro f_distances f_reached f_ends r_f_distances r_f_reached r_f_ends h
  rw [wp_X1_reach_61] at h
  exact q_vret g hF ⟨f_distances, f_reached, f_ends, rfl, rfl, r_f_distances, r_f_reached, r_f_ends, h⟩ dX1_reach_61
def wp_X1_reach (Q : (Int → Int) → (Int → Int) → Int → Prop) (f_distances : Int → Int) (f_reached : Int → Int) (f_ends : Int) (l1 : Int) (l2 : Int) : Prop := ((l1 < 0 → wp_X1_reach_61 Q f_distances f_reached f_ends) ∧
  (¬ (l1 < 0) → ((2000 ≤ l1 → wp_X1_reach_61 Q f_distances f_reached f_ends) ∧
  (¬ (2000 ≤ l1) → ((2000 ≤ f_ends → wp_X1_reach_61 Q f_distances f_reached f_ends) ∧
  (¬ (2000 ≤ f_ends) → (0 ≤ l1 ∧ l1 < 2000 ∧ ((0 ≤ (f_distances l1) → wp_X1_reach_61 Q f_distances f_reached f_ends) ∧
  (¬ (0 ≤ (f_distances l1)) → (0 ≤ l1 ∧ l1 < 2000 ∧ 0 ≤ f_ends ∧ f_ends < 2000 ∧ r32 (f_ends + 1) ∧ ∀ x58 : Int, x58 = (f_ends + 1) → wp_X1_reach_61 Q (ups f_distances l1 l2) (ups f_reached f_ends l1) x58))))))))))
set_option maxHeartbeats 4000000 in
set_option maxRecDepth 100000 in
theorem c_X1_reach (l : Launch) (D : va_G) (cI cJ : ClassId) (zt : Nat) (hX1 : Nat) (aX1_rows : Nat) (aX1_ones : Nat) (aX1_twos : Nat) (aX1_distances : Nat) (aX1_reached : Nat) (f_swaps : Int) (f_there : Int) (f_size : Int) (f_mostShares : Int) (f_source : Int) (f_looked : Int) (f_ends : Int) (f_distances : Int → Int) (f_reached : Int → Int) (l1 : Int) (l2 : Int) (Q : (Int → Int) → (Int → Int) → Int → Prop) (r_f_distances : rr32 f_distances) (r_f_reached : rr32 f_reached) (r_f_ends : r32 f_ends) (r_l1 : r32 l1) (r_l2 : r32 l2) (h : wp_X1_reach Q f_distances f_reached f_ends l1 l2) : Ct l D cI cJ zt yX1_reach cX1_reach 3 none 1 0 0 [.ref hX1, .int (i32 l1), .int (i32 l2)] [(hX1, .inr (1, [.ref aX1_rows, .ref aX1_ones, .ref aX1_twos, .ref aX1_distances, .ref aX1_reached, .int (i32 f_swaps), .int (i32 f_there), .int (i32 f_size), .int (i32 f_mostShares), .int (i32 f_source), .int (i32 f_looked), .int (i32 f_ends)])), (aX1_distances, aI cI 2000 f_distances), (aX1_reached, aI cI 2000 f_reached)] (po_X1_reach cI cJ hX1 aX1_rows aX1_ones aX1_twos aX1_distances aX1_reached f_swaps f_there f_size f_mostShares f_source f_looked Q) := by
  refine ct_of (by decide +kernel) (Nat.le_of_ble_eq_true rfl) (fun X hl hDD hcI hcJ hzt hR hF hnm g => ?_)
  subst hl; subst hDD; subst hcI; subst hcJ; subst hzt
  show Wat X 0 0 0 [(0, .ref hX1), (1, .int (i32 l1)), (2, .int (i32 l2))] [] [(hX1, .inr (1, [.ref aX1_rows, .ref aX1_ones, .ref aX1_twos, .ref aX1_distances, .ref aX1_reached, .int (i32 f_swaps), .int (i32 f_there), .int (i32 f_size), .int (i32 f_mostShares), .int (i32 f_source), .int (i32 f_looked), .int (i32 f_ends)])), (aX1_distances, aI X.cI 2000 f_distances), (aX1_reached, aI X.cI 2000 f_reached)]
  replace g : Gd X cX1_reach RX1 none 3 := g
  rw [wp_X1_reach] at h
  refine q_iload_n g 1 1 rfl dX1_reach_0 ?_
  refine q_if_lt g (60) 61 r_l1 (by decide) dX1_reach_1 (fun b1 => ?_) (fun b1 => ?_)
  · replace h := h.1 b1
    refine q_lv (lv' := []) [] rfl ?_
    exact s_X1_reach_61 g hR hX1 aX1_rows aX1_ones aX1_twos aX1_distances aX1_reached f_swaps f_there f_size f_mostShares f_source f_looked Q hF f_distances f_reached f_ends r_f_distances r_f_reached r_f_ends h
  replace h := h.2 b1
  refine q_iload_n g 1 1 rfl dX1_reach_4 ?_
  refine q_aload_n g 0 0 rfl dX1_reach_5 ?_
  refine q_get (C := RX1) (T := TX1) (N := 12) g 21 inX1 0 3 rfl rfl (by decide) wF_X1_21 rfl dX1_reach_6 ?_
  refine q_alenI g 1 2000 rfl rfl dX1_reach_9 ?_
  refine q_icmp_ge g (51) 61 r_l1 (r32_lit _ (by decide)) (by decide) dX1_reach_10 (fun b10 => ?_) (fun b10 => ?_)
  · replace h := h.1 b10
    refine q_lv (lv' := []) [] rfl ?_
    exact s_X1_reach_61 g hR hX1 aX1_rows aX1_ones aX1_twos aX1_distances aX1_reached f_swaps f_there f_size f_mostShares f_source f_looked Q hF f_distances f_reached f_ends r_f_distances r_f_reached r_f_ends h
  replace h := h.2 b10
  refine q_aload_n g 0 0 rfl dX1_reach_13 ?_
  refine q_get (C := RX1) (T := TX1) (N := 12) g 71 inX1 0 11 rfl rfl (by decide) wF_X1_71 rfl dX1_reach_14 ?_
  refine q_aload_n g 0 0 rfl dX1_reach_17 ?_
  refine q_get (C := RX1) (T := TX1) (N := 12) g 25 inX1 0 4 rfl rfl (by decide) wF_X1_25 rfl dX1_reach_18 ?_
  refine q_alenI g 2 2000 rfl rfl dX1_reach_21 ?_
  refine q_icmp_ge g (39) 61 r_f_ends (r32_lit _ (by decide)) (by decide) dX1_reach_22 (fun b22 => ?_) (fun b22 => ?_)
  · replace h := h.1 b22
    refine q_lv (lv' := []) [] rfl ?_
    exact s_X1_reach_61 g hR hX1 aX1_rows aX1_ones aX1_twos aX1_distances aX1_reached f_swaps f_there f_size f_mostShares f_source f_looked Q hF f_distances f_reached f_ends r_f_distances r_f_reached r_f_ends h
  replace h := h.2 b22
  refine q_aload_n g 0 0 rfl dX1_reach_25 ?_
  refine q_get (C := RX1) (T := TX1) (N := 12) g 21 inX1 0 3 rfl rfl (by decide) wF_X1_21 rfl dX1_reach_26 ?_
  refine q_iload_n g 1 1 rfl dX1_reach_29 ?_
  obtain ⟨c30, h⟩ := h
  obtain ⟨e30, h⟩ := h
  refine q_iald g 1 rfl c30 e30 (by decide) dX1_reach_30 ?_
  refine q_if_ge g (30) 61 (r_f_distances _) (by decide) dX1_reach_31 (fun b31 => ?_) (fun b31 => ?_)
  · replace h := h.1 b31
    refine q_lv (lv' := []) [] rfl ?_
    exact s_X1_reach_61 g hR hX1 aX1_rows aX1_ones aX1_twos aX1_distances aX1_reached f_swaps f_there f_size f_mostShares f_source f_looked Q hF f_distances f_reached f_ends r_f_distances r_f_reached r_f_ends h
  replace h := h.2 b31
  refine q_aload_n g 0 0 rfl dX1_reach_34 ?_
  refine q_get (C := RX1) (T := TX1) (N := 12) g 21 inX1 0 3 rfl rfl (by decide) wF_X1_21 rfl dX1_reach_35 ?_
  refine q_iload_n g 1 1 rfl dX1_reach_38 ?_
  refine q_iload_n g 2 2 rfl dX1_reach_39 ?_
  obtain ⟨c40, h⟩ := h
  obtain ⟨e40, h⟩ := h
  refine q_iast (ws' := [(hX1, .inr (1, [.ref aX1_rows, .ref aX1_ones, .ref aX1_twos, .ref aX1_distances, .ref aX1_reached, .int (i32 f_swaps), .int (i32 f_there), .int (i32 f_size), .int (i32 f_mostShares), .int (i32 f_source), .int (i32 f_looked), .int (i32 f_ends)])), (aX1_distances, aI X.cI 2000 (ups f_distances l1 l2)), (aX1_reached, aI X.cI 2000 f_reached)]) g 1 rfl c40 e40 (by decide) rfl dX1_reach_40 ?_
  refine q_aload_n g 0 0 rfl dX1_reach_41 ?_
  refine q_get (C := RX1) (T := TX1) (N := 12) g 25 inX1 0 4 rfl rfl (by decide) wF_X1_25 rfl dX1_reach_42 ?_
  refine q_aload_n g 0 0 rfl dX1_reach_45 ?_
  refine q_get (C := RX1) (T := TX1) (N := 12) g 71 inX1 0 11 rfl rfl (by decide) wF_X1_71 rfl dX1_reach_46 ?_
  refine q_iload_n g 1 1 rfl dX1_reach_49 ?_
  obtain ⟨c50, h⟩ := h
  obtain ⟨e50, h⟩ := h
  refine q_iast (ws' := [(hX1, .inr (1, [.ref aX1_rows, .ref aX1_ones, .ref aX1_twos, .ref aX1_distances, .ref aX1_reached, .int (i32 f_swaps), .int (i32 f_there), .int (i32 f_size), .int (i32 f_mostShares), .int (i32 f_source), .int (i32 f_looked), .int (i32 f_ends)])), (aX1_distances, aI X.cI 2000 (ups f_distances l1 l2)), (aX1_reached, aI X.cI 2000 (ups f_reached f_ends l1))]) g 2 rfl c50 e50 (by decide) rfl dX1_reach_50 ?_
  refine q_aload_n g 0 0 rfl dX1_reach_51 ?_
  refine q_dup g rfl dX1_reach_52 ?_
  refine q_get (C := RX1) (T := TX1) (N := 12) g 71 inX1 0 11 rfl rfl (by decide) wF_X1_71 rfl dX1_reach_53 ?_
  refine q_iconst g (1) dX1_reach_56 ?_
  obtain ⟨c57, h⟩ := h
  refine q_iadd g dX1_reach_57 ?_
  refine q_topi c57 (fun x58 ex58 rx58 => ?_)
  replace h := h x58 ex58
  refine q_put (C := RX1) (T := TX1) (N := 12) (ty := .int) (ws' := [(hX1, .inr (1, [.ref aX1_rows, .ref aX1_ones, .ref aX1_twos, .ref aX1_distances, .ref aX1_reached, .int (i32 f_swaps), .int (i32 f_there), .int (i32 f_size), .int (i32 f_mostShares), .int (i32 f_source), .int (i32 f_looked), .int (i32 x58)])), (aX1_distances, aI X.cI 2000 (ups f_distances l1 l2)), (aX1_reached, aI X.cI 2000 (ups f_reached f_ends l1))]) g 71 inX1 tyX1_ok nmX1 0 11 rfl rfl (by decide) wF_X1_71 rfl rfl rfl rfl (Nat.le_of_ble_eq_true rfl) rfl dX1_reach_58 ?_
  refine q_lv (lv' := []) [] rfl ?_
  exact s_X1_reach_61 g hR hX1 aX1_rows aX1_ones aX1_twos aX1_distances aX1_reached f_swaps f_there f_size f_mostShares f_source f_looked Q hF (ups f_distances l1 l2) (ups f_reached f_ends l1) x58 (rr32_u r_f_distances r_l2) (rr32_u r_f_reached r_l1) rx58 h
theorem dX1_setOut_0 : decode cX1_setOut 0 = .ok (.aload_n 0, 1) := by decide +kernel
theorem dX1_setOut_1 : decode cX1_setOut 1 = .ok (.getfield 21, 3) := by decide +kernel
theorem dX1_setOut_4 : decode cX1_setOut 4 = .ok (.iconst (-1), 1) := by decide +kernel
theorem dX1_setOut_5 : decode cX1_setOut 5 = .ok (.invokestatic 77, 3) := by decide +kernel
theorem dX1_setOut_8 : decode cX1_setOut 8 = .ok (.aload_n 0, 1) := by decide +kernel
theorem dX1_setOut_9 : decode cX1_setOut 9 = .ok (.iload_n 1, 1) := by decide +kernel
theorem dX1_setOut_10 : decode cX1_setOut 10 = .ok (.putfield 28, 3) := by decide +kernel
theorem dX1_setOut_13 : decode cX1_setOut 13 = .ok (.aload_n 0, 1) := by decide +kernel
theorem dX1_setOut_14 : decode cX1_setOut 14 = .ok (.iconst 0, 1) := by decide +kernel
theorem dX1_setOut_15 : decode cX1_setOut 15 = .ok (.putfield 68, 3) := by decide +kernel
theorem dX1_setOut_18 : decode cX1_setOut 18 = .ok (.aload_n 0, 1) := by decide +kernel
theorem dX1_setOut_19 : decode cX1_setOut 19 = .ok (.iconst 0, 1) := by decide +kernel
theorem dX1_setOut_20 : decode cX1_setOut 20 = .ok (.putfield 71, 3) := by decide +kernel
theorem dX1_setOut_23 : decode cX1_setOut 23 = .ok (.aload_n 0, 1) := by decide +kernel
theorem dX1_setOut_24 : decode cX1_setOut 24 = .ok (.iload_n 1, 1) := by decide +kernel
theorem dX1_setOut_25 : decode cX1_setOut 25 = .ok (.iconst 0, 1) := by decide +kernel
theorem dX1_setOut_26 : decode cX1_setOut 26 = .ok (.invokevirtual 83, 3) := by decide +kernel
theorem dX1_setOut_29 : decode cX1_setOut 29 = .ok (.return_, 1) := by decide +kernel
abbrev po_X1_setOut (cI cJ : ClassId) (hX1 : Nat) (aX1_rows : Nat) (aX1_ones : Nat) (aX1_twos : Nat) (aX1_distances : Nat) (aX1_reached : Nat) (f_swaps : Int) (f_there : Int) (f_size : Int) (f_mostShares : Int) (Q : (Int → Int) → (Int → Int) → Int → Int → Int → Prop) : Option Value → va_W → Prop := fun rv w1 => ∃ (f_distances : Int → Int) (f_reached : Int → Int) (f_source : Int) (f_looked : Int) (f_ends : Int), rv = none ∧ w1 = [(hX1, .inr (1, [.ref aX1_rows, .ref aX1_ones, .ref aX1_twos, .ref aX1_distances, .ref aX1_reached, .int (i32 f_swaps), .int (i32 f_there), .int (i32 f_size), .int (i32 f_mostShares), .int (i32 f_source), .int (i32 f_looked), .int (i32 f_ends)])), (aX1_distances, aI cI 2000 f_distances), (aX1_reached, aI cI 2000 f_reached)] ∧ rr32 f_distances ∧ rr32 f_reached ∧ r32 f_source ∧ r32 f_looked ∧ r32 f_ends ∧ Q f_distances f_reached f_source f_looked f_ends
def wp_X1_setOut (Q : (Int → Int) → (Int → Int) → Int → Int → Int → Prop) (f_distances : Int → Int) (f_reached : Int → Int) (f_source : Int) (f_looked : Int) (f_ends : Int) (l1 : Int) : Prop := wp_J7_fill_53178 (fun (f_distances_5 : Int → Int) => wp_X1_reach (fun (f_distances_26 : Int → Int) (f_reached_26 : Int → Int) (f_ends_26 : Int) => Q f_distances_26 f_reached_26 l1 0 f_ends_26) f_distances_5 f_reached 0 l1 0) 2000 f_distances (-1)
set_option maxHeartbeats 4000000 in
set_option maxRecDepth 100000 in
theorem c_X1_setOut (l : Launch) (D : va_G) (cI cJ : ClassId) (zt : Nat) (hX1 : Nat) (aX1_rows : Nat) (aX1_ones : Nat) (aX1_twos : Nat) (aX1_distances : Nat) (aX1_reached : Nat) (f_swaps : Int) (f_there : Int) (f_size : Int) (f_mostShares : Int) (f_source : Int) (f_looked : Int) (f_ends : Int) (f_distances : Int → Int) (f_reached : Int → Int) (l1 : Int) (Q : (Int → Int) → (Int → Int) → Int → Int → Int → Prop) (r_f_distances : rr32 f_distances) (r_f_reached : rr32 f_reached) (r_f_source : r32 f_source) (r_f_looked : r32 f_looked) (r_f_ends : r32 f_ends) (r_l1 : r32 l1) (h : wp_X1_setOut Q f_distances f_reached f_source f_looked f_ends l1) : Ct l D cI cJ zt yX1_setOut cX1_setOut 2 none 2 0 0 [.ref hX1, .int (i32 l1)] [(hX1, .inr (1, [.ref aX1_rows, .ref aX1_ones, .ref aX1_twos, .ref aX1_distances, .ref aX1_reached, .int (i32 f_swaps), .int (i32 f_there), .int (i32 f_size), .int (i32 f_mostShares), .int (i32 f_source), .int (i32 f_looked), .int (i32 f_ends)])), (aX1_distances, aI cI 2000 f_distances), (aX1_reached, aI cI 2000 f_reached)] (po_X1_setOut cI cJ hX1 aX1_rows aX1_ones aX1_twos aX1_distances aX1_reached f_swaps f_there f_size f_mostShares Q) := by
  refine ct_of (by decide +kernel) (Nat.le_of_ble_eq_true rfl) (fun X hl hDD hcI hcJ hzt hR hF hnm g => ?_)
  subst hl; subst hDD; subst hcI; subst hcJ; subst hzt
  show Wat X 0 0 0 [(0, .ref hX1), (1, .int (i32 l1))] [] [(hX1, .inr (1, [.ref aX1_rows, .ref aX1_ones, .ref aX1_twos, .ref aX1_distances, .ref aX1_reached, .int (i32 f_swaps), .int (i32 f_there), .int (i32 f_size), .int (i32 f_mostShares), .int (i32 f_source), .int (i32 f_looked), .int (i32 f_ends)])), (aX1_distances, aI X.cI 2000 f_distances), (aX1_reached, aI X.cI 2000 f_reached)]
  replace g : Gd X cX1_setOut RX1 none 2 := g
  rw [wp_X1_setOut] at h
  refine q_aload_n g 0 0 rfl dX1_setOut_0 ?_
  refine q_get (C := RX1) (T := TX1) (N := 12) g 21 inX1 0 3 rfl rfl (by decide) wF_X1_21 rfl dX1_setOut_1 ?_
  refine q_iconst g (-1) dX1_setOut_4 ?_
  refine q_callS (lev := 1) (mc := 0) (ms := 0) (As := [.ref aX1_distances, .int (i32 (-1))]) g 77 (c_J7_fill_53178 X.l X.D X.cI X.cJ X.zt aX1_distances 2000 f_distances (-1) _ r_f_distances (r32_lit _ (by decide)) (by decide) h) (wr := [(hX1, .inr (1, [.ref aX1_rows, .ref aX1_ones, .ref aX1_twos, .ref aX1_distances, .ref aX1_reached, .int (i32 f_swaps), .int (i32 f_there), .int (i32 f_size), .int (i32 f_mostShares), .int (i32 f_source), .int (i32 f_looked), .int (i32 f_ends)])), (aX1_reached, aI X.cI 2000 f_reached)]) [1] [0, 2] rfl rfl rfl (by decide) (by decide) (by decide) wM_X1_77 wT_J7_fill_53178 wZ_J7 wC_J7_fill_53178 2 rfl (by decide +kernel) (by rw [hR]; exact ⟨by show 1 + 1 ≤ 2; omega, by show 8 + (4 + 11) + 100 * 1 ≤ 100 * 2; omega⟩) (by rw [hR]; exact ⟨Nat.le_refl _, Nat.le_refl _⟩) (Nat.le_of_ble_eq_true rfl) rfl dX1_setOut_5 (fun rv w1 hq => ?_)
  obtain ⟨f_distances_5, rfl, rfl, rf_distances_5, h⟩ := hq
  refine q_ws (ws' := [(hX1, .inr (1, [.ref aX1_rows, .ref aX1_ones, .ref aX1_twos, .ref aX1_distances, .ref aX1_reached, .int (i32 f_swaps), .int (i32 f_there), .int (i32 f_size), .int (i32 f_mostShares), .int (i32 f_source), .int (i32 f_looked), .int (i32 f_ends)])), (aX1_distances, aI X.cI 2000 f_distances_5), (aX1_reached, aI X.cI 2000 f_reached)]) [0, 2, 1] (by decide) rfl rfl ?_
  show Wat X 0 0 8 [(0, .ref hX1), (1, .int (i32 l1))] [] [(hX1, .inr (1, [.ref aX1_rows, .ref aX1_ones, .ref aX1_twos, .ref aX1_distances, .ref aX1_reached, .int (i32 f_swaps), .int (i32 f_there), .int (i32 f_size), .int (i32 f_mostShares), .int (i32 f_source), .int (i32 f_looked), .int (i32 f_ends)])), (aX1_distances, aI X.cI 2000 f_distances_5), (aX1_reached, aI X.cI 2000 f_reached)]
  refine q_aload_n g 0 0 rfl dX1_setOut_8 ?_
  refine q_iload_n g 1 1 rfl dX1_setOut_9 ?_
  refine q_put (C := RX1) (T := TX1) (N := 12) (ty := .int) (ws' := [(hX1, .inr (1, [.ref aX1_rows, .ref aX1_ones, .ref aX1_twos, .ref aX1_distances, .ref aX1_reached, .int (i32 f_swaps), .int (i32 f_there), .int (i32 f_size), .int (i32 f_mostShares), .int (i32 l1), .int (i32 f_looked), .int (i32 f_ends)])), (aX1_distances, aI X.cI 2000 f_distances_5), (aX1_reached, aI X.cI 2000 f_reached)]) g 28 inX1 tyX1_ok nmX1 0 9 rfl rfl (by decide) wF_X1_28 rfl rfl rfl rfl (Nat.le_of_ble_eq_true rfl) rfl dX1_setOut_10 ?_
  refine q_aload_n g 0 0 rfl dX1_setOut_13 ?_
  refine q_iconst g (0) dX1_setOut_14 ?_
  refine q_put (C := RX1) (T := TX1) (N := 12) (ty := .int) (ws' := [(hX1, .inr (1, [.ref aX1_rows, .ref aX1_ones, .ref aX1_twos, .ref aX1_distances, .ref aX1_reached, .int (i32 f_swaps), .int (i32 f_there), .int (i32 f_size), .int (i32 f_mostShares), .int (i32 l1), .int (i32 0), .int (i32 f_ends)])), (aX1_distances, aI X.cI 2000 f_distances_5), (aX1_reached, aI X.cI 2000 f_reached)]) g 68 inX1 tyX1_ok nmX1 0 10 rfl rfl (by decide) wF_X1_68 rfl rfl rfl rfl (Nat.le_of_ble_eq_true rfl) rfl dX1_setOut_15 ?_
  refine q_aload_n g 0 0 rfl dX1_setOut_18 ?_
  refine q_iconst g (0) dX1_setOut_19 ?_
  refine q_put (C := RX1) (T := TX1) (N := 12) (ty := .int) (ws' := [(hX1, .inr (1, [.ref aX1_rows, .ref aX1_ones, .ref aX1_twos, .ref aX1_distances, .ref aX1_reached, .int (i32 f_swaps), .int (i32 f_there), .int (i32 f_size), .int (i32 f_mostShares), .int (i32 l1), .int (i32 0), .int (i32 0)])), (aX1_distances, aI X.cI 2000 f_distances_5), (aX1_reached, aI X.cI 2000 f_reached)]) g 71 inX1 tyX1_ok nmX1 0 11 rfl rfl (by decide) wF_X1_71 rfl rfl rfl rfl (Nat.le_of_ble_eq_true rfl) rfl dX1_setOut_20 ?_
  refine q_aload_n g 0 0 rfl dX1_setOut_23 ?_
  refine q_iload_n g 1 1 rfl dX1_setOut_24 ?_
  refine q_iconst g (0) dX1_setOut_25 ?_
  refine q_callV (lev := 1) (mc := 0) (ms := 0) g 83 (c_X1_reach X.l X.D X.cI X.cJ X.zt hX1 aX1_rows aX1_ones aX1_twos aX1_distances aX1_reached f_swaps f_there f_size f_mostShares l1 0 0 f_distances_5 f_reached l1 0 _ rf_distances_5 r_f_reached (r32_lit _ (by decide)) r_l1 (r32_lit _ (by decide)) h) (wr := []) [0, 1, 2] [] rfl rfl rfl (by decide) (by decide) (by decide) (ci := 1) rfl rfl rfl wM_X1_83 wI_X1_reach wS_X1_reach wZ_X1 wC_X1_reach 2 rfl (by decide +kernel) (by rw [hR]; exact ⟨by show 1 + 1 ≤ 2; omega, by show 8 + (3 + 11) + 100 * 1 ≤ 100 * 2; omega⟩) (by rw [hR]; exact ⟨Nat.le_refl _, Nat.le_refl _⟩) (Nat.le_of_ble_eq_true rfl) rfl dX1_setOut_26 (fun rv w1 hq => ?_)
  obtain ⟨f_distances_26, f_reached_26, f_ends_26, rfl, rfl, rf_distances_26, rf_reached_26, rf_ends_26, h⟩ := hq
  show Wat X 0 0 29 [(0, .ref hX1), (1, .int (i32 l1))] [] [(hX1, .inr (1, [.ref aX1_rows, .ref aX1_ones, .ref aX1_twos, .ref aX1_distances, .ref aX1_reached, .int (i32 f_swaps), .int (i32 f_there), .int (i32 f_size), .int (i32 f_mostShares), .int (i32 l1), .int (i32 0), .int (i32 f_ends_26)])), (aX1_distances, aI X.cI 2000 f_distances_26), (aX1_reached, aI X.cI 2000 f_reached_26)]
  exact q_vret g hF ⟨f_distances_26, f_reached_26, l1, 0, f_ends_26, rfl, rfl, rf_distances_26, rf_reached_26, r_l1, (r32_lit _ (by decide)), rf_ends_26, h⟩ dX1_setOut_29
theorem dX1_lookAround_0 : decode cX1_lookAround 0 = .ok (.iconst 0, 1) := by decide +kernel
theorem dX1_lookAround_1 : decode cX1_lookAround 1 = .ok (.istore_n 2, 1) := by decide +kernel
theorem dX1_lookAround_2 : decode cX1_lookAround 2 = .ok (.iload_n 2, 1) := by decide +kernel
theorem dX1_lookAround_3 : decode cX1_lookAround 3 = .ok (.aload_n 0, 1) := by decide +kernel
theorem dX1_lookAround_4 : decode cX1_lookAround 4 = .ok (.getfield 34, 3) := by decide +kernel
theorem dX1_lookAround_7 : decode cX1_lookAround 7 = .ok (.if_icmp .ge 37, 3) := by decide +kernel
theorem dX1_lookAround_10 : decode cX1_lookAround 10 = .ok (.aload_n 0, 1) := by decide +kernel
theorem dX1_lookAround_11 : decode cX1_lookAround 11 = .ok (.aload_n 0, 1) := by decide +kernel
theorem dX1_lookAround_12 : decode cX1_lookAround 12 = .ok (.iload_n 1, 1) := by decide +kernel
theorem dX1_lookAround_13 : decode cX1_lookAround 13 = .ok (.invokevirtual 51, 3) := by decide +kernel
theorem dX1_lookAround_16 : decode cX1_lookAround 16 = .ok (.iload_n 2, 1) := by decide +kernel
theorem dX1_lookAround_17 : decode cX1_lookAround 17 = .ok (.invokevirtual 60, 3) := by decide +kernel
theorem dX1_lookAround_20 : decode cX1_lookAround 20 = .ok (.istore_n 3, 1) := by decide +kernel
theorem dX1_lookAround_21 : decode cX1_lookAround 21 = .ok (.iload_n 3, 1) := by decide +kernel
theorem dX1_lookAround_22 : decode cX1_lookAround 22 = .ok (.ifCond .lt 16, 3) := by decide +kernel
theorem dX1_lookAround_25 : decode cX1_lookAround 25 = .ok (.aload_n 0, 1) := by decide +kernel
theorem dX1_lookAround_26 : decode cX1_lookAround 26 = .ok (.iload_n 3, 1) := by decide +kernel
theorem dX1_lookAround_27 : decode cX1_lookAround 27 = .ok (.aload_n 0, 1) := by decide +kernel
theorem dX1_lookAround_28 : decode cX1_lookAround 28 = .ok (.getfield 21, 3) := by decide +kernel
theorem dX1_lookAround_31 : decode cX1_lookAround 31 = .ok (.iload_n 1, 1) := by decide +kernel
theorem dX1_lookAround_32 : decode cX1_lookAround 32 = .ok (.iaload, 1) := by decide +kernel
theorem dX1_lookAround_33 : decode cX1_lookAround 33 = .ok (.iconst 1, 1) := by decide +kernel
theorem dX1_lookAround_34 : decode cX1_lookAround 34 = .ok (.iadd, 1) := by decide +kernel
theorem dX1_lookAround_35 : decode cX1_lookAround 35 = .ok (.invokevirtual 83, 3) := by decide +kernel
theorem dX1_lookAround_38 : decode cX1_lookAround 38 = .ok (.iinc 2 1, 3) := by decide +kernel
theorem dX1_lookAround_41 : decode cX1_lookAround 41 = .ok (.goto (-39), 3) := by decide +kernel
theorem dX1_lookAround_44 : decode cX1_lookAround 44 = .ok (.return_, 1) := by decide +kernel
abbrev po_X1_lookAround (cI cJ : ClassId) (hX1 : Nat) (aX1_rows : Nat) (aX1_ones : Nat) (aX1_twos : Nat) (aX1_distances : Nat) (aX1_reached : Nat) (f_swaps : Int) (f_there : Int) (f_size : Int) (f_mostShares : Int) (f_source : Int) (f_looked : Int) (f_rows : Int → Int) (f_ones : Int → Int) (f_twos : Int → Int) (Q : (Int → Int) → (Int → Int) → Int → Prop) : Option Value → va_W → Prop := fun rv w1 => ∃ (f_distances : Int → Int) (f_reached : Int → Int) (f_ends : Int), rv = none ∧ w1 = [(hX1, .inr (1, [.ref aX1_rows, .ref aX1_ones, .ref aX1_twos, .ref aX1_distances, .ref aX1_reached, .int (i32 f_swaps), .int (i32 f_there), .int (i32 f_size), .int (i32 f_mostShares), .int (i32 f_source), .int (i32 f_looked), .int (i32 f_ends)])), (aX1_rows, aL cJ 2001 f_rows), (aX1_ones, aL cJ 31 f_ones), (aX1_twos, aL cJ 31 f_twos), (aX1_distances, aI cI 2000 f_distances), (aX1_reached, aI cI 2000 f_reached)] ∧ rr32 f_distances ∧ rr32 f_reached ∧ r32 f_ends ∧ Q f_distances f_reached f_ends
def wp_X1_lookAround_38 (Q : (Int → Int) → (Int → Int) → Int → Prop) (f_rows : Int → Int) (f_ones : Int → Int) (f_twos : Int → Int) (f_swaps : Int) (f_size : Int) (f_mostShares : Int) (K_2 : (Int → Int) → (Int → Int) → Int → Int → Int → Prop) (f_distances : Int → Int) (f_reached : Int → Int) (f_ends : Int) (l1 : Int) (l2 : Int) : Prop := (r32 (l2 + 1) ∧ K_2 f_distances f_reached f_ends l1 (l2 + 1))
set_option maxHeartbeats 4000000 in
set_option maxRecDepth 100000 in
theorem s_X1_lookAround_38 {X : Cx} (g : Gd X cX1_lookAround RX1 none 4) (hR : X.R = rmL 3 0 0) (hX1 : Nat) (aX1_rows : Nat) (aX1_ones : Nat) (aX1_twos : Nat) (aX1_distances : Nat) (aX1_reached : Nat) (f_there : Int) (f_source : Int) (f_looked : Int) (f_rows : Int → Int) (f_ones : Int → Int) (f_twos : Int → Int) (f_swaps : Int) (f_size : Int) (f_mostShares : Int) (r_f_rows : rr64 f_rows) (r_f_ones : rr64 f_ones) (r_f_twos : rr64 f_twos) (r_f_swaps : r32 f_swaps) (r_f_size : r32 f_size) (r_f_mostShares : r32 f_mostShares) (Q : (Int → Int) → (Int → Int) → Int → Prop) (hF : FQ X 0 0 (po_X1_lookAround X.cI X.cJ hX1 aX1_rows aX1_ones aX1_twos aX1_distances aX1_reached f_swaps f_there f_size f_mostShares f_source f_looked f_rows f_ones f_twos Q)) (K_2 : (Int → Int) → (Int → Int) → Int → Int → Int → Prop) (hK_2 : ∀ (f_distances : Int → Int) (f_reached : Int → Int) (f_ends : Int) (l1 : Int) (l2 : Int), rr32 f_distances → rr32 f_reached → r32 f_ends → r32 l1 → r32 l2 → K_2 f_distances f_reached f_ends l1 l2 → Wat X 0 0 2 [(0, .ref hX1), (1, .int (i32 l1)), (2, .int (i32 l2))] [] [(hX1, .inr (1, [.ref aX1_rows, .ref aX1_ones, .ref aX1_twos, .ref aX1_distances, .ref aX1_reached, .int (i32 f_swaps), .int (i32 f_there), .int (i32 f_size), .int (i32 f_mostShares), .int (i32 f_source), .int (i32 f_looked), .int (i32 f_ends)])), (aX1_rows, aL X.cJ 2001 f_rows), (aX1_ones, aL X.cJ 31 f_ones), (aX1_twos, aL X.cJ 31 f_twos), (aX1_distances, aI X.cI 2000 f_distances), (aX1_reached, aI X.cI 2000 f_reached)]) : ∀ (f_distances : Int → Int) (f_reached : Int → Int) (f_ends : Int) (l1 : Int) (l2 : Int), rr32 f_distances → rr32 f_reached → r32 f_ends → r32 l1 → r32 l2 → wp_X1_lookAround_38 Q f_rows f_ones f_twos f_swaps f_size f_mostShares K_2 f_distances f_reached f_ends l1 l2 → Wat X 0 0 38 [(0, .ref hX1), (1, .int (i32 l1)), (2, .int (i32 l2))] [] [(hX1, .inr (1, [.ref aX1_rows, .ref aX1_ones, .ref aX1_twos, .ref aX1_distances, .ref aX1_reached, .int (i32 f_swaps), .int (i32 f_there), .int (i32 f_size), .int (i32 f_mostShares), .int (i32 f_source), .int (i32 f_looked), .int (i32 f_ends)])), (aX1_rows, aL X.cJ 2001 f_rows), (aX1_ones, aL X.cJ 31 f_ones), (aX1_twos, aL X.cJ 31 f_twos), (aX1_distances, aI X.cI 2000 f_distances), (aX1_reached, aI X.cI 2000 f_reached)] := by
  intro f_distances f_reached f_ends l1 l2 r_f_distances r_f_reached r_f_ends r_l1 r_l2 h
  rw [wp_X1_lookAround_38] at h
  obtain ⟨c38, h⟩ := h
  refine q_iinc (lv' := [(2, .int (i32 (l2 + 1))), (0, .ref hX1), (1, .int (i32 l1))]) g 2 2 1 (by decide) rfl rfl dX1_lookAround_38 ?_
  refine q_goto g (-39) 2 (by decide) dX1_lookAround_41 ?_
  refine q_lv (lv' := [(0, .ref hX1), (1, .int (i32 l1)), (2, .int (i32 (l2 + 1)))]) [1, 2, 0] rfl ?_
  exact hK_2 f_distances f_reached f_ends l1 (l2 + 1) r_f_distances r_f_reached r_f_ends r_l1 c38 h
def wp_X1_lookAround_2 (Q : (Int → Int) → (Int → Int) → Int → Prop) (f_rows : Int → Int) (f_ones : Int → Int) (f_twos : Int → Int) (f_swaps : Int) (f_size : Int) (f_mostShares : Int) : Nat → (Int → Int) → (Int → Int) → Int → Int → Int → Prop
  | 0, _, _, _, _, _ => False
  | n + 1, f_distances, f_reached, f_ends, l1, l2 => ((f_swaps ≤ l2 → Q f_distances f_reached f_ends) ∧
  (¬ (f_swaps ≤ l2) → wp_X1_at (fun (x13 : Int) => wp_X1_across (fun (x17 : Int) => ((x17 < 0 → wp_X1_lookAround_38 Q f_rows f_ones f_twos f_swaps f_size f_mostShares (wp_X1_lookAround_2 Q f_rows f_ones f_twos f_swaps f_size f_mostShares n) f_distances f_reached f_ends l1 l2) ∧
  (¬ (x17 < 0) → (0 ≤ l1 ∧ l1 < 2000 ∧ r32 ((f_distances l1) + 1) ∧ wp_X1_reach (fun (f_distances_35 : Int → Int) (f_reached_35 : Int → Int) (f_ends_35 : Int) => wp_X1_lookAround_38 Q f_rows f_ones f_twos f_swaps f_size f_mostShares (wp_X1_lookAround_2 Q f_rows f_ones f_twos f_swaps f_size f_mostShares n) f_distances_35 f_reached_35 f_ends_35 l1 l2) f_distances f_reached f_ends x17 ((f_distances l1) + 1))))) f_rows f_ones f_twos f_size f_mostShares x13 l2) f_rows l1))
set_option maxHeartbeats 4000000 in
set_option maxRecDepth 100000 in
theorem s_X1_lookAround_2 {X : Cx} (g : Gd X cX1_lookAround RX1 none 4) (hR : X.R = rmL 3 0 0) (hX1 : Nat) (aX1_rows : Nat) (aX1_ones : Nat) (aX1_twos : Nat) (aX1_distances : Nat) (aX1_reached : Nat) (f_there : Int) (f_source : Int) (f_looked : Int) (f_rows : Int → Int) (f_ones : Int → Int) (f_twos : Int → Int) (f_swaps : Int) (f_size : Int) (f_mostShares : Int) (r_f_rows : rr64 f_rows) (r_f_ones : rr64 f_ones) (r_f_twos : rr64 f_twos) (r_f_swaps : r32 f_swaps) (r_f_size : r32 f_size) (r_f_mostShares : r32 f_mostShares) (Q : (Int → Int) → (Int → Int) → Int → Prop) (hF : FQ X 0 0 (po_X1_lookAround X.cI X.cJ hX1 aX1_rows aX1_ones aX1_twos aX1_distances aX1_reached f_swaps f_there f_size f_mostShares f_source f_looked f_rows f_ones f_twos Q)) : ∀ (n : Nat) (f_distances : Int → Int) (f_reached : Int → Int) (f_ends : Int) (l1 : Int) (l2 : Int), rr32 f_distances → rr32 f_reached → r32 f_ends → r32 l1 → r32 l2 → wp_X1_lookAround_2 Q f_rows f_ones f_twos f_swaps f_size f_mostShares n f_distances f_reached f_ends l1 l2 → Wat X 0 0 2 [(0, .ref hX1), (1, .int (i32 l1)), (2, .int (i32 l2))] [] [(hX1, .inr (1, [.ref aX1_rows, .ref aX1_ones, .ref aX1_twos, .ref aX1_distances, .ref aX1_reached, .int (i32 f_swaps), .int (i32 f_there), .int (i32 f_size), .int (i32 f_mostShares), .int (i32 f_source), .int (i32 f_looked), .int (i32 f_ends)])), (aX1_rows, aL X.cJ 2001 f_rows), (aX1_ones, aL X.cJ 31 f_ones), (aX1_twos, aL X.cJ 31 f_twos), (aX1_distances, aI X.cI 2000 f_distances), (aX1_reached, aI X.cI 2000 f_reached)] := by
  intro n
  induction n with
  | zero => intro f_distances f_reached f_ends l1 l2 r_f_distances r_f_reached r_f_ends r_l1 r_l2 h; exact False.elim h
  | succ n ih =>
    intro f_distances f_reached f_ends l1 l2 r_f_distances r_f_reached r_f_ends r_l1 r_l2 h
    rw [wp_X1_lookAround_2] at h
    refine q_iload_n g 2 2 rfl dX1_lookAround_2 ?_
    refine q_aload_n g 0 0 rfl dX1_lookAround_3 ?_
    refine q_get (C := RX1) (T := TX1) (N := 12) g 34 inX1 0 5 rfl rfl (by decide) wF_X1_34 rfl dX1_lookAround_4 ?_
    refine q_icmp_ge g (37) 44 r_l2 r_f_swaps (by decide) dX1_lookAround_7 (fun b7 => ?_) (fun b7 => ?_)
    · replace h := h.1 b7
      exact q_vret g hF ⟨f_distances, f_reached, f_ends, rfl, rfl, r_f_distances, r_f_reached, r_f_ends, h⟩ dX1_lookAround_44
    replace h := h.2 b7
    refine q_aload_n g 0 0 rfl dX1_lookAround_10 ?_
    refine q_aload_n g 0 0 rfl dX1_lookAround_11 ?_
    refine q_iload_n g 1 1 rfl dX1_lookAround_12 ?_
    refine q_callV (lev := 1) (mc := 0) (ms := 0) g 51 (c_X1_at X.l X.D X.cI X.cJ X.zt hX1 aX1_rows aX1_ones aX1_twos aX1_distances aX1_reached f_swaps f_there f_size f_mostShares f_source f_looked f_ends f_rows l1 _ r_f_rows r_l1 h) (wr := [(aX1_ones, aL X.cJ 31 f_ones), (aX1_twos, aL X.cJ 31 f_twos), (aX1_distances, aI X.cI 2000 f_distances), (aX1_reached, aI X.cI 2000 f_reached)]) [0, 1] [2, 3, 4, 5] rfl rfl rfl (by decide) (by decide) (by decide) (ci := 1) rfl rfl rfl wM_X1_51 wI_X1_at wS_X1_at wZ_X1 wC_X1_at 1 rfl (by decide +kernel) (by rw [hR]; exact ⟨by show 1 + 1 ≤ 3; omega, by show 8 + (2 + 11) + 100 * 1 ≤ 100 * 3; omega⟩) (by rw [hR]; exact ⟨Nat.le_refl _, Nat.le_refl _⟩) (Nat.le_of_ble_eq_true rfl) rfl dX1_lookAround_13 (fun rv w1 hq => ?_)
    obtain ⟨x13, rfl, rfl, rx13, h⟩ := hq
    refine q_ws (ws' := [(hX1, .inr (1, [.ref aX1_rows, .ref aX1_ones, .ref aX1_twos, .ref aX1_distances, .ref aX1_reached, .int (i32 f_swaps), .int (i32 f_there), .int (i32 f_size), .int (i32 f_mostShares), .int (i32 f_source), .int (i32 f_looked), .int (i32 f_ends)])), (aX1_rows, aL X.cJ 2001 f_rows), (aX1_ones, aL X.cJ 31 f_ones), (aX1_twos, aL X.cJ 31 f_twos), (aX1_distances, aI X.cI 2000 f_distances), (aX1_reached, aI X.cI 2000 f_reached)]) [4, 5, 0, 1, 2, 3] (by decide) rfl rfl ?_
    show Wat X 0 0 16 [(0, .ref hX1), (1, .int (i32 l1)), (2, .int (i32 l2))] [.long (i64 x13), .ref hX1] [(hX1, .inr (1, [.ref aX1_rows, .ref aX1_ones, .ref aX1_twos, .ref aX1_distances, .ref aX1_reached, .int (i32 f_swaps), .int (i32 f_there), .int (i32 f_size), .int (i32 f_mostShares), .int (i32 f_source), .int (i32 f_looked), .int (i32 f_ends)])), (aX1_rows, aL X.cJ 2001 f_rows), (aX1_ones, aL X.cJ 31 f_ones), (aX1_twos, aL X.cJ 31 f_twos), (aX1_distances, aI X.cI 2000 f_distances), (aX1_reached, aI X.cI 2000 f_reached)]
    refine q_iload_n g 2 2 rfl dX1_lookAround_16 ?_
    refine q_callV (lev := 2) (mc := 0) (ms := 0) g 60 (c_X1_across X.l X.D X.cI X.cJ X.zt hX1 aX1_rows aX1_ones aX1_twos aX1_distances aX1_reached f_swaps f_there f_size f_mostShares f_source f_looked f_ends f_rows f_ones f_twos x13 l2 _ r_f_rows r_f_ones r_f_twos r_f_size r_f_mostShares rx13 r_l2 h) (wr := [(aX1_distances, aI X.cI 2000 f_distances), (aX1_reached, aI X.cI 2000 f_reached)]) [0, 1, 2, 3] [4, 5] rfl rfl rfl (by decide) (by decide) (by decide) (ci := 1) rfl rfl rfl wM_X1_60 wI_X1_across wS_X1_across wZ_X1 wC_X1_across 2 rfl (by decide +kernel) (by rw [hR]; exact ⟨by show 2 + 1 ≤ 3; omega, by show 8 + (10 + 11) + 100 * 2 ≤ 100 * 3; omega⟩) (by rw [hR]; exact ⟨Nat.le_refl _, Nat.le_refl _⟩) (Nat.le_of_ble_eq_true rfl) rfl dX1_lookAround_17 (fun rv w1 hq => ?_)
    obtain ⟨x17, rfl, rfl, rx17, h⟩ := hq
    refine q_ws (ws' := [(hX1, .inr (1, [.ref aX1_rows, .ref aX1_ones, .ref aX1_twos, .ref aX1_distances, .ref aX1_reached, .int (i32 f_swaps), .int (i32 f_there), .int (i32 f_size), .int (i32 f_mostShares), .int (i32 f_source), .int (i32 f_looked), .int (i32 f_ends)])), (aX1_rows, aL X.cJ 2001 f_rows), (aX1_ones, aL X.cJ 31 f_ones), (aX1_twos, aL X.cJ 31 f_twos), (aX1_distances, aI X.cI 2000 f_distances), (aX1_reached, aI X.cI 2000 f_reached)]) [2, 3, 4, 5, 0, 1] (by decide) rfl rfl ?_
    show Wat X 0 0 20 [(0, .ref hX1), (1, .int (i32 l1)), (2, .int (i32 l2))] [.int (i32 x17)] [(hX1, .inr (1, [.ref aX1_rows, .ref aX1_ones, .ref aX1_twos, .ref aX1_distances, .ref aX1_reached, .int (i32 f_swaps), .int (i32 f_there), .int (i32 f_size), .int (i32 f_mostShares), .int (i32 f_source), .int (i32 f_looked), .int (i32 f_ends)])), (aX1_rows, aL X.cJ 2001 f_rows), (aX1_ones, aL X.cJ 31 f_ones), (aX1_twos, aL X.cJ 31 f_twos), (aX1_distances, aI X.cI 2000 f_distances), (aX1_reached, aI X.cI 2000 f_reached)]
    refine q_istore_n (lv' := [(3, .int (i32 x17)), (0, .ref hX1), (1, .int (i32 l1)), (2, .int (i32 l2))]) g 3 3 rfl (by decide) rfl dX1_lookAround_20 ?_
    refine q_iload_n g 3 0 rfl dX1_lookAround_21 ?_
    refine q_if_lt g (16) 38 rx17 (by decide) dX1_lookAround_22 (fun b22 => ?_) (fun b22 => ?_)
    · replace h := h.1 b22
      refine q_lv (lv' := [(0, .ref hX1), (1, .int (i32 l1)), (2, .int (i32 l2))]) [1, 2, 3] rfl ?_
      exact s_X1_lookAround_38 g hR hX1 aX1_rows aX1_ones aX1_twos aX1_distances aX1_reached f_there f_source f_looked f_rows f_ones f_twos f_swaps f_size f_mostShares r_f_rows r_f_ones r_f_twos r_f_swaps r_f_size r_f_mostShares Q hF (wp_X1_lookAround_2 Q f_rows f_ones f_twos f_swaps f_size f_mostShares n) (fun v0 v1 v2 v3 v4 w0 w1 w2 w3 w4 hh => ih v0 v1 v2 v3 v4 w0 w1 w2 w3 w4 hh) f_distances f_reached f_ends l1 l2 r_f_distances r_f_reached r_f_ends r_l1 r_l2 h
    replace h := h.2 b22
    refine q_aload_n g 0 1 rfl dX1_lookAround_25 ?_
    refine q_iload_n g 3 0 rfl dX1_lookAround_26 ?_
    refine q_aload_n g 0 1 rfl dX1_lookAround_27 ?_
    refine q_get (C := RX1) (T := TX1) (N := 12) g 21 inX1 0 3 rfl rfl (by decide) wF_X1_21 rfl dX1_lookAround_28 ?_
    refine q_iload_n g 1 2 rfl dX1_lookAround_31 ?_
    obtain ⟨c32, h⟩ := h
    obtain ⟨e32, h⟩ := h
    refine q_iald g 4 rfl c32 e32 (by decide) dX1_lookAround_32 ?_
    refine q_iconst g (1) dX1_lookAround_33 ?_
    obtain ⟨c34, h⟩ := h
    refine q_iadd g dX1_lookAround_34 ?_
    refine q_callV (lev := 1) (mc := 0) (ms := 0) g 83 (c_X1_reach X.l X.D X.cI X.cJ X.zt hX1 aX1_rows aX1_ones aX1_twos aX1_distances aX1_reached f_swaps f_there f_size f_mostShares f_source f_looked f_ends f_distances f_reached x17 ((f_distances l1) + 1) _ r_f_distances r_f_reached r_f_ends rx17 c34 h) (wr := [(aX1_rows, aL X.cJ 2001 f_rows), (aX1_ones, aL X.cJ 31 f_ones), (aX1_twos, aL X.cJ 31 f_twos)]) [0, 4, 5] [1, 2, 3] rfl rfl rfl (by decide) (by decide) (by decide) (ci := 1) rfl rfl rfl wM_X1_83 wI_X1_reach wS_X1_reach wZ_X1 wC_X1_reach 2 rfl (by decide +kernel) (by rw [hR]; exact ⟨by show 1 + 1 ≤ 3; omega, by show 8 + (3 + 11) + 100 * 1 ≤ 100 * 3; omega⟩) (by rw [hR]; exact ⟨Nat.le_refl _, Nat.le_refl _⟩) (Nat.le_of_ble_eq_true rfl) rfl dX1_lookAround_35 (fun rv w1 hq => ?_)
    obtain ⟨f_distances_35, f_reached_35, f_ends_35, rfl, rfl, rf_distances_35, rf_reached_35, rf_ends_35, h⟩ := hq
    refine q_ws (ws' := [(hX1, .inr (1, [.ref aX1_rows, .ref aX1_ones, .ref aX1_twos, .ref aX1_distances, .ref aX1_reached, .int (i32 f_swaps), .int (i32 f_there), .int (i32 f_size), .int (i32 f_mostShares), .int (i32 f_source), .int (i32 f_looked), .int (i32 f_ends_35)])), (aX1_rows, aL X.cJ 2001 f_rows), (aX1_ones, aL X.cJ 31 f_ones), (aX1_twos, aL X.cJ 31 f_twos), (aX1_distances, aI X.cI 2000 f_distances_35), (aX1_reached, aI X.cI 2000 f_reached_35)]) [3, 0, 1, 2, 4, 5] (by decide) rfl rfl ?_
    show Wat X 0 0 38 [(3, .int (i32 x17)), (0, .ref hX1), (1, .int (i32 l1)), (2, .int (i32 l2))] [] [(hX1, .inr (1, [.ref aX1_rows, .ref aX1_ones, .ref aX1_twos, .ref aX1_distances, .ref aX1_reached, .int (i32 f_swaps), .int (i32 f_there), .int (i32 f_size), .int (i32 f_mostShares), .int (i32 f_source), .int (i32 f_looked), .int (i32 f_ends_35)])), (aX1_rows, aL X.cJ 2001 f_rows), (aX1_ones, aL X.cJ 31 f_ones), (aX1_twos, aL X.cJ 31 f_twos), (aX1_distances, aI X.cI 2000 f_distances_35), (aX1_reached, aI X.cI 2000 f_reached_35)]
    refine q_lv (lv' := [(0, .ref hX1), (1, .int (i32 l1)), (2, .int (i32 l2))]) [1, 2, 3] rfl ?_
    exact s_X1_lookAround_38 g hR hX1 aX1_rows aX1_ones aX1_twos aX1_distances aX1_reached f_there f_source f_looked f_rows f_ones f_twos f_swaps f_size f_mostShares r_f_rows r_f_ones r_f_twos r_f_swaps r_f_size r_f_mostShares Q hF (wp_X1_lookAround_2 Q f_rows f_ones f_twos f_swaps f_size f_mostShares n) (fun v0 v1 v2 v3 v4 w0 w1 w2 w3 w4 hh => ih v0 v1 v2 v3 v4 w0 w1 w2 w3 w4 hh) f_distances_35 f_reached_35 f_ends_35 l1 l2 rf_distances_35 rf_reached_35 rf_ends_35 r_l1 r_l2 h
def wp_X1_lookAround (Q : (Int → Int) → (Int → Int) → Int → Prop) (f_rows : Int → Int) (f_ones : Int → Int) (f_twos : Int → Int) (f_distances : Int → Int) (f_reached : Int → Int) (f_swaps : Int) (f_size : Int) (f_mostShares : Int) (f_ends : Int) (l1 : Int) : Prop := (∃ n0 : Nat, wp_X1_lookAround_2 Q f_rows f_ones f_twos f_swaps f_size f_mostShares n0 f_distances f_reached f_ends l1 0)
set_option maxHeartbeats 4000000 in
set_option maxRecDepth 100000 in
theorem c_X1_lookAround (l : Launch) (D : va_G) (cI cJ : ClassId) (zt : Nat) (hX1 : Nat) (aX1_rows : Nat) (aX1_ones : Nat) (aX1_twos : Nat) (aX1_distances : Nat) (aX1_reached : Nat) (f_swaps : Int) (f_there : Int) (f_size : Int) (f_mostShares : Int) (f_source : Int) (f_looked : Int) (f_ends : Int) (f_rows : Int → Int) (f_ones : Int → Int) (f_twos : Int → Int) (f_distances : Int → Int) (f_reached : Int → Int) (l1 : Int) (Q : (Int → Int) → (Int → Int) → Int → Prop) (r_f_rows : rr64 f_rows) (r_f_ones : rr64 f_ones) (r_f_twos : rr64 f_twos) (r_f_distances : rr32 f_distances) (r_f_reached : rr32 f_reached) (r_f_swaps : r32 f_swaps) (r_f_size : r32 f_size) (r_f_mostShares : r32 f_mostShares) (r_f_ends : r32 f_ends) (r_l1 : r32 l1) (h : wp_X1_lookAround Q f_rows f_ones f_twos f_distances f_reached f_swaps f_size f_mostShares f_ends l1) : Ct l D cI cJ zt yX1_lookAround cX1_lookAround 4 none 3 0 0 [.ref hX1, .int (i32 l1)] [(hX1, .inr (1, [.ref aX1_rows, .ref aX1_ones, .ref aX1_twos, .ref aX1_distances, .ref aX1_reached, .int (i32 f_swaps), .int (i32 f_there), .int (i32 f_size), .int (i32 f_mostShares), .int (i32 f_source), .int (i32 f_looked), .int (i32 f_ends)])), (aX1_rows, aL cJ 2001 f_rows), (aX1_ones, aL cJ 31 f_ones), (aX1_twos, aL cJ 31 f_twos), (aX1_distances, aI cI 2000 f_distances), (aX1_reached, aI cI 2000 f_reached)] (po_X1_lookAround cI cJ hX1 aX1_rows aX1_ones aX1_twos aX1_distances aX1_reached f_swaps f_there f_size f_mostShares f_source f_looked f_rows f_ones f_twos Q) := by
  refine ct_of (by decide +kernel) (Nat.le_of_ble_eq_true rfl) (fun X hl hDD hcI hcJ hzt hR hF hnm g => ?_)
  subst hl; subst hDD; subst hcI; subst hcJ; subst hzt
  show Wat X 0 0 0 [(0, .ref hX1), (1, .int (i32 l1))] [] [(hX1, .inr (1, [.ref aX1_rows, .ref aX1_ones, .ref aX1_twos, .ref aX1_distances, .ref aX1_reached, .int (i32 f_swaps), .int (i32 f_there), .int (i32 f_size), .int (i32 f_mostShares), .int (i32 f_source), .int (i32 f_looked), .int (i32 f_ends)])), (aX1_rows, aL X.cJ 2001 f_rows), (aX1_ones, aL X.cJ 31 f_ones), (aX1_twos, aL X.cJ 31 f_twos), (aX1_distances, aI X.cI 2000 f_distances), (aX1_reached, aI X.cI 2000 f_reached)]
  replace g : Gd X cX1_lookAround RX1 none 4 := g
  rw [wp_X1_lookAround] at h
  refine q_iconst g (0) dX1_lookAround_0 ?_
  refine q_istore_n (lv' := [(2, .int (i32 0)), (0, .ref hX1), (1, .int (i32 l1))]) g 2 2 rfl (by decide) rfl dX1_lookAround_1 ?_
  refine q_lv (lv' := [(0, .ref hX1), (1, .int (i32 l1)), (2, .int (i32 0))]) [1, 2, 0] rfl ?_
  obtain ⟨n0, h⟩ := h
  exact s_X1_lookAround_2 g hR hX1 aX1_rows aX1_ones aX1_twos aX1_distances aX1_reached f_there f_source f_looked f_rows f_ones f_twos f_swaps f_size f_mostShares r_f_rows r_f_ones r_f_twos r_f_swaps r_f_size r_f_mostShares Q hF n0 f_distances f_reached f_ends l1 0 r_f_distances r_f_reached r_f_ends r_l1 (r32_lit _ (by decide)) h
theorem dX1_fewestSteps_0 : decode cX1_fewestSteps 0 = .ok (.iload_n 1, 1) := by decide +kernel
theorem dX1_fewestSteps_1 : decode cX1_fewestSteps 1 = .ok (.ifCond .lt 23, 3) := by decide +kernel
theorem dX1_fewestSteps_4 : decode cX1_fewestSteps 4 = .ok (.iload_n 1, 1) := by decide +kernel
theorem dX1_fewestSteps_5 : decode cX1_fewestSteps 5 = .ok (.aload_n 0, 1) := by decide +kernel
theorem dX1_fewestSteps_6 : decode cX1_fewestSteps 6 = .ok (.getfield 45, 3) := by decide +kernel
theorem dX1_fewestSteps_9 : decode cX1_fewestSteps 9 = .ok (.if_icmp .ge 15, 3) := by decide +kernel
theorem dX1_fewestSteps_12 : decode cX1_fewestSteps 12 = .ok (.iload_n 2, 1) := by decide +kernel
theorem dX1_fewestSteps_13 : decode cX1_fewestSteps 13 = .ok (.ifCond .lt 11, 3) := by decide +kernel
theorem dX1_fewestSteps_16 : decode cX1_fewestSteps 16 = .ok (.iload_n 2, 1) := by decide +kernel
theorem dX1_fewestSteps_17 : decode cX1_fewestSteps 17 = .ok (.aload_n 0, 1) := by decide +kernel
theorem dX1_fewestSteps_18 : decode cX1_fewestSteps 18 = .ok (.getfield 45, 3) := by decide +kernel
theorem dX1_fewestSteps_21 : decode cX1_fewestSteps 21 = .ok (.if_icmp .lt 6, 3) := by decide +kernel
theorem dX1_fewestSteps_24 : decode cX1_fewestSteps 24 = .ok (.bipush (-4), 2) := by decide +kernel
theorem dX1_fewestSteps_26 : decode cX1_fewestSteps 26 = .ok (.ireturn, 1) := by decide +kernel
theorem dX1_fewestSteps_27 : decode cX1_fewestSteps 27 = .ok (.iload_n 1, 1) := by decide +kernel
theorem dX1_fewestSteps_28 : decode cX1_fewestSteps 28 = .ok (.aload_n 0, 1) := by decide +kernel
theorem dX1_fewestSteps_29 : decode cX1_fewestSteps 29 = .ok (.getfield 28, 3) := by decide +kernel
theorem dX1_fewestSteps_32 : decode cX1_fewestSteps 32 = .ok (.if_icmp .eq 8, 3) := by decide +kernel
theorem dX1_fewestSteps_35 : decode cX1_fewestSteps 35 = .ok (.aload_n 0, 1) := by decide +kernel
theorem dX1_fewestSteps_36 : decode cX1_fewestSteps 36 = .ok (.iload_n 1, 1) := by decide +kernel
theorem dX1_fewestSteps_37 : decode cX1_fewestSteps 37 = .ok (.invokevirtual 64, 3) := by decide +kernel
theorem dX1_fewestSteps_40 : decode cX1_fewestSteps 40 = .ok (.aload_n 0, 1) := by decide +kernel
theorem dX1_fewestSteps_41 : decode cX1_fewestSteps 41 = .ok (.getfield 21, 3) := by decide +kernel
theorem dX1_fewestSteps_44 : decode cX1_fewestSteps 44 = .ok (.iload_n 2, 1) := by decide +kernel
theorem dX1_fewestSteps_45 : decode cX1_fewestSteps 45 = .ok (.iaload, 1) := by decide +kernel
theorem dX1_fewestSteps_46 : decode cX1_fewestSteps 46 = .ok (.ifCond .ge 52, 3) := by decide +kernel
theorem dX1_fewestSteps_49 : decode cX1_fewestSteps 49 = .ok (.aload_n 0, 1) := by decide +kernel
theorem dX1_fewestSteps_50 : decode cX1_fewestSteps 50 = .ok (.getfield 68, 3) := by decide +kernel
theorem dX1_fewestSteps_53 : decode cX1_fewestSteps 53 = .ok (.aload_n 0, 1) := by decide +kernel
theorem dX1_fewestSteps_54 : decode cX1_fewestSteps 54 = .ok (.getfield 71, 3) := by decide +kernel
theorem dX1_fewestSteps_57 : decode cX1_fewestSteps 57 = .ok (.if_icmp .ge 41, 3) := by decide +kernel
theorem dX1_fewestSteps_60 : decode cX1_fewestSteps 60 = .ok (.aload_n 0, 1) := by decide +kernel
theorem dX1_fewestSteps_61 : decode cX1_fewestSteps 61 = .ok (.getfield 68, 3) := by decide +kernel
theorem dX1_fewestSteps_64 : decode cX1_fewestSteps 64 = .ok (.aload_n 0, 1) := by decide +kernel
theorem dX1_fewestSteps_65 : decode cX1_fewestSteps 65 = .ok (.getfield 25, 3) := by decide +kernel
theorem dX1_fewestSteps_68 : decode cX1_fewestSteps 68 = .ok (.arraylength, 1) := by decide +kernel
theorem dX1_fewestSteps_69 : decode cX1_fewestSteps 69 = .ok (.if_icmp .ge 29, 3) := by decide +kernel
theorem dX1_fewestSteps_72 : decode cX1_fewestSteps 72 = .ok (.aload_n 0, 1) := by decide +kernel
theorem dX1_fewestSteps_73 : decode cX1_fewestSteps 73 = .ok (.aload_n 0, 1) := by decide +kernel
theorem dX1_fewestSteps_74 : decode cX1_fewestSteps 74 = .ok (.getfield 25, 3) := by decide +kernel
theorem dX1_fewestSteps_77 : decode cX1_fewestSteps 77 = .ok (.aload_n 0, 1) := by decide +kernel
theorem dX1_fewestSteps_78 : decode cX1_fewestSteps 78 = .ok (.getfield 68, 3) := by decide +kernel
theorem dX1_fewestSteps_81 : decode cX1_fewestSteps 81 = .ok (.iaload, 1) := by decide +kernel
theorem dX1_fewestSteps_82 : decode cX1_fewestSteps 82 = .ok (.invokevirtual 74, 3) := by decide +kernel
theorem dX1_fewestSteps_85 : decode cX1_fewestSteps 85 = .ok (.aload_n 0, 1) := by decide +kernel
theorem dX1_fewestSteps_86 : decode cX1_fewestSteps 86 = .ok (.dup, 1) := by decide +kernel
theorem dX1_fewestSteps_87 : decode cX1_fewestSteps 87 = .ok (.getfield 68, 3) := by decide +kernel
theorem dX1_fewestSteps_90 : decode cX1_fewestSteps 90 = .ok (.iconst 1, 1) := by decide +kernel
theorem dX1_fewestSteps_91 : decode cX1_fewestSteps 91 = .ok (.iadd, 1) := by decide +kernel
theorem dX1_fewestSteps_92 : decode cX1_fewestSteps 92 = .ok (.putfield 68, 3) := by decide +kernel
theorem dX1_fewestSteps_95 : decode cX1_fewestSteps 95 = .ok (.goto (-55), 3) := by decide +kernel
theorem dX1_fewestSteps_98 : decode cX1_fewestSteps 98 = .ok (.aload_n 0, 1) := by decide +kernel
theorem dX1_fewestSteps_99 : decode cX1_fewestSteps 99 = .ok (.getfield 21, 3) := by decide +kernel
theorem dX1_fewestSteps_102 : decode cX1_fewestSteps 102 = .ok (.iload_n 2, 1) := by decide +kernel
theorem dX1_fewestSteps_103 : decode cX1_fewestSteps 103 = .ok (.iaload, 1) := by decide +kernel
theorem dX1_fewestSteps_104 : decode cX1_fewestSteps 104 = .ok (.ifCond .ge 8, 3) := by decide +kernel
theorem dX1_fewestSteps_107 : decode cX1_fewestSteps 107 = .ok (.bipush (-4), 2) := by decide +kernel
theorem dX1_fewestSteps_109 : decode cX1_fewestSteps 109 = .ok (.goto 9, 3) := by decide +kernel
theorem dX1_fewestSteps_112 : decode cX1_fewestSteps 112 = .ok (.aload_n 0, 1) := by decide +kernel
theorem dX1_fewestSteps_113 : decode cX1_fewestSteps 113 = .ok (.getfield 21, 3) := by decide +kernel
theorem dX1_fewestSteps_116 : decode cX1_fewestSteps 116 = .ok (.iload_n 2, 1) := by decide +kernel
theorem dX1_fewestSteps_117 : decode cX1_fewestSteps 117 = .ok (.iaload, 1) := by decide +kernel
theorem dX1_fewestSteps_118 : decode cX1_fewestSteps 118 = .ok (.ireturn, 1) := by decide +kernel
abbrev po_X1_fewestSteps (cI cJ : ClassId) (hX1 : Nat) (aX1_rows : Nat) (aX1_ones : Nat) (aX1_twos : Nat) (aX1_distances : Nat) (aX1_reached : Nat) (f_swaps : Int) (f_there : Int) (f_size : Int) (f_mostShares : Int) (f_rows : Int → Int) (f_ones : Int → Int) (f_twos : Int → Int) (Q : Int → (Int → Int) → (Int → Int) → Int → Int → Int → Prop) : Option Value → va_W → Prop := fun rv w1 => ∃ (r0 : Int) (f_distances : Int → Int) (f_reached : Int → Int) (f_source : Int) (f_looked : Int) (f_ends : Int), rv = some (.int (i32 r0)) ∧ w1 = [(hX1, .inr (1, [.ref aX1_rows, .ref aX1_ones, .ref aX1_twos, .ref aX1_distances, .ref aX1_reached, .int (i32 f_swaps), .int (i32 f_there), .int (i32 f_size), .int (i32 f_mostShares), .int (i32 f_source), .int (i32 f_looked), .int (i32 f_ends)])), (aX1_rows, aL cJ 2001 f_rows), (aX1_ones, aL cJ 31 f_ones), (aX1_twos, aL cJ 31 f_twos), (aX1_distances, aI cI 2000 f_distances), (aX1_reached, aI cI 2000 f_reached)] ∧ r32 r0 ∧ rr32 f_distances ∧ rr32 f_reached ∧ r32 f_source ∧ r32 f_looked ∧ r32 f_ends ∧ Q r0 f_distances f_reached f_source f_looked f_ends
def wp_X1_fewestSteps_24 (Q : Int → (Int → Int) → (Int → Int) → Int → Int → Int → Prop) (f_rows : Int → Int) (f_ones : Int → Int) (f_twos : Int → Int) (f_swaps : Int) (f_size : Int) (f_mostShares : Int) (f_distances : Int → Int) (f_reached : Int → Int) (f_source : Int) (f_looked : Int) (f_ends : Int) : Prop := Q (-4) f_distances f_reached f_source f_looked f_ends
set_option maxHeartbeats 4000000 in
set_option maxRecDepth 100000 in
theorem s_X1_fewestSteps_24 {X : Cx} (g : Gd X cX1_fewestSteps RX1 (some .int) 3) (hR : X.R = rmL 4 0 0) (hX1 : Nat) (aX1_rows : Nat) (aX1_ones : Nat) (aX1_twos : Nat) (aX1_distances : Nat) (aX1_reached : Nat) (f_there : Int) (f_rows : Int → Int) (f_ones : Int → Int) (f_twos : Int → Int) (f_swaps : Int) (f_size : Int) (f_mostShares : Int) (r_f_rows : rr64 f_rows) (r_f_ones : rr64 f_ones) (r_f_twos : rr64 f_twos) (r_f_swaps : r32 f_swaps) (r_f_size : r32 f_size) (r_f_mostShares : r32 f_mostShares) (Q : Int → (Int → Int) → (Int → Int) → Int → Int → Int → Prop) (hF : FQ X 0 0 (po_X1_fewestSteps X.cI X.cJ hX1 aX1_rows aX1_ones aX1_twos aX1_distances aX1_reached f_swaps f_there f_size f_mostShares f_rows f_ones f_twos Q)) : ∀ (f_distances : Int → Int) (f_reached : Int → Int) (f_source : Int) (f_looked : Int) (f_ends : Int), rr32 f_distances → rr32 f_reached → r32 f_source → r32 f_looked → r32 f_ends → wp_X1_fewestSteps_24 Q f_rows f_ones f_twos f_swaps f_size f_mostShares f_distances f_reached f_source f_looked f_ends → Wat X 0 0 24 [] [] [(hX1, .inr (1, [.ref aX1_rows, .ref aX1_ones, .ref aX1_twos, .ref aX1_distances, .ref aX1_reached, .int (i32 f_swaps), .int (i32 f_there), .int (i32 f_size), .int (i32 f_mostShares), .int (i32 f_source), .int (i32 f_looked), .int (i32 f_ends)])), (aX1_rows, aL X.cJ 2001 f_rows), (aX1_ones, aL X.cJ 31 f_ones), (aX1_twos, aL X.cJ 31 f_twos), (aX1_distances, aI X.cI 2000 f_distances), (aX1_reached, aI X.cI 2000 f_reached)] := by
  intro f_distances f_reached f_source f_looked f_ends r_f_distances r_f_reached r_f_source r_f_looked r_f_ends h
  rw [wp_X1_fewestSteps_24] at h
  refine q_bipush g (-4) (by decide) (by decide) dX1_fewestSteps_24 ?_
  exact q_iret g hF ⟨(-4), f_distances, f_reached, f_source, f_looked, f_ends, rfl, rfl, (r32_lit _ (by decide)), r_f_distances, r_f_reached, r_f_source, r_f_looked, r_f_ends, h⟩ dX1_fewestSteps_26
def wp_X1_fewestSteps_118 (Q : Int → (Int → Int) → (Int → Int) → Int → Int → Int → Prop) (f_rows : Int → Int) (f_ones : Int → Int) (f_twos : Int → Int) (f_swaps : Int) (f_size : Int) (f_mostShares : Int) (f_distances : Int → Int) (f_reached : Int → Int) (f_source : Int) (f_looked : Int) (f_ends : Int) (k0 : Int) : Prop := Q k0 f_distances f_reached f_source f_looked f_ends
set_option maxHeartbeats 4000000 in
set_option maxRecDepth 100000 in
theorem s_X1_fewestSteps_118 {X : Cx} (g : Gd X cX1_fewestSteps RX1 (some .int) 3) (hR : X.R = rmL 4 0 0) (hX1 : Nat) (aX1_rows : Nat) (aX1_ones : Nat) (aX1_twos : Nat) (aX1_distances : Nat) (aX1_reached : Nat) (f_there : Int) (f_rows : Int → Int) (f_ones : Int → Int) (f_twos : Int → Int) (f_swaps : Int) (f_size : Int) (f_mostShares : Int) (r_f_rows : rr64 f_rows) (r_f_ones : rr64 f_ones) (r_f_twos : rr64 f_twos) (r_f_swaps : r32 f_swaps) (r_f_size : r32 f_size) (r_f_mostShares : r32 f_mostShares) (Q : Int → (Int → Int) → (Int → Int) → Int → Int → Int → Prop) (hF : FQ X 0 0 (po_X1_fewestSteps X.cI X.cJ hX1 aX1_rows aX1_ones aX1_twos aX1_distances aX1_reached f_swaps f_there f_size f_mostShares f_rows f_ones f_twos Q)) : ∀ (f_distances : Int → Int) (f_reached : Int → Int) (f_source : Int) (f_looked : Int) (f_ends : Int) (k0 : Int), rr32 f_distances → rr32 f_reached → r32 f_source → r32 f_looked → r32 f_ends → r32 k0 → wp_X1_fewestSteps_118 Q f_rows f_ones f_twos f_swaps f_size f_mostShares f_distances f_reached f_source f_looked f_ends k0 → Wat X 0 0 118 [] [.int (i32 k0)] [(hX1, .inr (1, [.ref aX1_rows, .ref aX1_ones, .ref aX1_twos, .ref aX1_distances, .ref aX1_reached, .int (i32 f_swaps), .int (i32 f_there), .int (i32 f_size), .int (i32 f_mostShares), .int (i32 f_source), .int (i32 f_looked), .int (i32 f_ends)])), (aX1_rows, aL X.cJ 2001 f_rows), (aX1_ones, aL X.cJ 31 f_ones), (aX1_twos, aL X.cJ 31 f_twos), (aX1_distances, aI X.cI 2000 f_distances), (aX1_reached, aI X.cI 2000 f_reached)] := by
  intro f_distances f_reached f_source f_looked f_ends k0 r_f_distances r_f_reached r_f_source r_f_looked r_f_ends r_k0 h
  rw [wp_X1_fewestSteps_118] at h
  exact q_iret g hF ⟨k0, f_distances, f_reached, f_source, f_looked, f_ends, rfl, rfl, r_k0, r_f_distances, r_f_reached, r_f_source, r_f_looked, r_f_ends, h⟩ dX1_fewestSteps_118
def wp_X1_fewestSteps_98 (Q : Int → (Int → Int) → (Int → Int) → Int → Int → Int → Prop) (f_rows : Int → Int) (f_ones : Int → Int) (f_twos : Int → Int) (f_swaps : Int) (f_size : Int) (f_mostShares : Int) (f_distances : Int → Int) (f_reached : Int → Int) (f_source : Int) (f_looked : Int) (f_ends : Int) (l2 : Int) : Prop := (0 ≤ l2 ∧ l2 < 2000 ∧ ((0 ≤ (f_distances l2) → (0 ≤ l2 ∧ l2 < 2000 ∧ wp_X1_fewestSteps_118 Q f_rows f_ones f_twos f_swaps f_size f_mostShares f_distances f_reached f_source f_looked f_ends (f_distances l2))) ∧
  (¬ (0 ≤ (f_distances l2)) → wp_X1_fewestSteps_118 Q f_rows f_ones f_twos f_swaps f_size f_mostShares f_distances f_reached f_source f_looked f_ends (-4))))
set_option maxHeartbeats 4000000 in
set_option maxRecDepth 100000 in
theorem s_X1_fewestSteps_98 {X : Cx} (g : Gd X cX1_fewestSteps RX1 (some .int) 3) (hR : X.R = rmL 4 0 0) (hX1 : Nat) (aX1_rows : Nat) (aX1_ones : Nat) (aX1_twos : Nat) (aX1_distances : Nat) (aX1_reached : Nat) (f_there : Int) (f_rows : Int → Int) (f_ones : Int → Int) (f_twos : Int → Int) (f_swaps : Int) (f_size : Int) (f_mostShares : Int) (r_f_rows : rr64 f_rows) (r_f_ones : rr64 f_ones) (r_f_twos : rr64 f_twos) (r_f_swaps : r32 f_swaps) (r_f_size : r32 f_size) (r_f_mostShares : r32 f_mostShares) (Q : Int → (Int → Int) → (Int → Int) → Int → Int → Int → Prop) (hF : FQ X 0 0 (po_X1_fewestSteps X.cI X.cJ hX1 aX1_rows aX1_ones aX1_twos aX1_distances aX1_reached f_swaps f_there f_size f_mostShares f_rows f_ones f_twos Q)) : ∀ (f_distances : Int → Int) (f_reached : Int → Int) (f_source : Int) (f_looked : Int) (f_ends : Int) (l2 : Int), rr32 f_distances → rr32 f_reached → r32 f_source → r32 f_looked → r32 f_ends → r32 l2 → wp_X1_fewestSteps_98 Q f_rows f_ones f_twos f_swaps f_size f_mostShares f_distances f_reached f_source f_looked f_ends l2 → Wat X 0 0 98 [(0, .ref hX1), (2, .int (i32 l2))] [] [(hX1, .inr (1, [.ref aX1_rows, .ref aX1_ones, .ref aX1_twos, .ref aX1_distances, .ref aX1_reached, .int (i32 f_swaps), .int (i32 f_there), .int (i32 f_size), .int (i32 f_mostShares), .int (i32 f_source), .int (i32 f_looked), .int (i32 f_ends)])), (aX1_rows, aL X.cJ 2001 f_rows), (aX1_ones, aL X.cJ 31 f_ones), (aX1_twos, aL X.cJ 31 f_twos), (aX1_distances, aI X.cI 2000 f_distances), (aX1_reached, aI X.cI 2000 f_reached)] := by
  intro f_distances f_reached f_source f_looked f_ends l2 r_f_distances r_f_reached r_f_source r_f_looked r_f_ends r_l2 h
  rw [wp_X1_fewestSteps_98] at h
  refine q_aload_n g 0 0 rfl dX1_fewestSteps_98 ?_
  refine q_get (C := RX1) (T := TX1) (N := 12) g 21 inX1 0 3 rfl rfl (by decide) wF_X1_21 rfl dX1_fewestSteps_99 ?_
  refine q_iload_n g 2 1 rfl dX1_fewestSteps_102 ?_
  obtain ⟨c103, h⟩ := h
  obtain ⟨e103, h⟩ := h
  refine q_iald g 4 rfl c103 e103 (by decide) dX1_fewestSteps_103 ?_
  refine q_if_ge g (8) 112 (r_f_distances _) (by decide) dX1_fewestSteps_104 (fun b104 => ?_) (fun b104 => ?_)
  · replace h := h.1 b104
    refine q_aload_n g 0 0 rfl dX1_fewestSteps_112 ?_
    refine q_get (C := RX1) (T := TX1) (N := 12) g 21 inX1 0 3 rfl rfl (by decide) wF_X1_21 rfl dX1_fewestSteps_113 ?_
    refine q_iload_n g 2 1 rfl dX1_fewestSteps_116 ?_
    obtain ⟨c117, h⟩ := h
    obtain ⟨e117, h⟩ := h
    refine q_iald g 4 rfl c117 e117 (by decide) dX1_fewestSteps_117 ?_
    refine q_lv (lv' := []) [] rfl ?_
    exact s_X1_fewestSteps_118 g hR hX1 aX1_rows aX1_ones aX1_twos aX1_distances aX1_reached f_there f_rows f_ones f_twos f_swaps f_size f_mostShares r_f_rows r_f_ones r_f_twos r_f_swaps r_f_size r_f_mostShares Q hF f_distances f_reached f_source f_looked f_ends (f_distances l2) r_f_distances r_f_reached r_f_source r_f_looked r_f_ends (r_f_distances _) h
  replace h := h.2 b104
  refine q_bipush g (-4) (by decide) (by decide) dX1_fewestSteps_107 ?_
  refine q_goto g (9) 118 (by decide) dX1_fewestSteps_109 ?_
  refine q_lv (lv' := []) [] rfl ?_
  exact s_X1_fewestSteps_118 g hR hX1 aX1_rows aX1_ones aX1_twos aX1_distances aX1_reached f_there f_rows f_ones f_twos f_swaps f_size f_mostShares r_f_rows r_f_ones r_f_twos r_f_swaps r_f_size r_f_mostShares Q hF f_distances f_reached f_source f_looked f_ends (-4) r_f_distances r_f_reached r_f_source r_f_looked r_f_ends (r32_lit _ (by decide)) h
def wp_X1_fewestSteps_40 (Q : Int → (Int → Int) → (Int → Int) → Int → Int → Int → Prop) (f_rows : Int → Int) (f_ones : Int → Int) (f_twos : Int → Int) (f_swaps : Int) (f_size : Int) (f_mostShares : Int) : Nat → (Int → Int) → (Int → Int) → Int → Int → Int → Int → Prop
  | 0, _, _, _, _, _, _ => False
  | n + 1, f_distances, f_reached, f_source, f_looked, f_ends, l2 => (0 ≤ l2 ∧ l2 < 2000 ∧ ((0 ≤ (f_distances l2) → wp_X1_fewestSteps_98 Q f_rows f_ones f_twos f_swaps f_size f_mostShares f_distances f_reached f_source f_looked f_ends l2) ∧
  (¬ (0 ≤ (f_distances l2)) → ((f_ends ≤ f_looked → wp_X1_fewestSteps_98 Q f_rows f_ones f_twos f_swaps f_size f_mostShares f_distances f_reached f_source f_looked f_ends l2) ∧
  (¬ (f_ends ≤ f_looked) → ((2000 ≤ f_looked → wp_X1_fewestSteps_98 Q f_rows f_ones f_twos f_swaps f_size f_mostShares f_distances f_reached f_source f_looked f_ends l2) ∧
  (¬ (2000 ≤ f_looked) → (0 ≤ f_looked ∧ f_looked < 2000 ∧ wp_X1_lookAround (fun (f_distances_82 : Int → Int) (f_reached_82 : Int → Int) (f_ends_82 : Int) => (r32 (f_looked + 1) ∧ ∀ x92 : Int, x92 = (f_looked + 1) → wp_X1_fewestSteps_40 Q f_rows f_ones f_twos f_swaps f_size f_mostShares n f_distances_82 f_reached_82 f_source x92 f_ends_82 l2)) f_rows f_ones f_twos f_distances f_reached f_swaps f_size f_mostShares f_ends (f_reached f_looked)))))))))
set_option maxHeartbeats 4000000 in
set_option maxRecDepth 100000 in
theorem s_X1_fewestSteps_40 {X : Cx} (g : Gd X cX1_fewestSteps RX1 (some .int) 3) (hR : X.R = rmL 4 0 0) (hX1 : Nat) (aX1_rows : Nat) (aX1_ones : Nat) (aX1_twos : Nat) (aX1_distances : Nat) (aX1_reached : Nat) (f_there : Int) (f_rows : Int → Int) (f_ones : Int → Int) (f_twos : Int → Int) (f_swaps : Int) (f_size : Int) (f_mostShares : Int) (r_f_rows : rr64 f_rows) (r_f_ones : rr64 f_ones) (r_f_twos : rr64 f_twos) (r_f_swaps : r32 f_swaps) (r_f_size : r32 f_size) (r_f_mostShares : r32 f_mostShares) (Q : Int → (Int → Int) → (Int → Int) → Int → Int → Int → Prop) (hF : FQ X 0 0 (po_X1_fewestSteps X.cI X.cJ hX1 aX1_rows aX1_ones aX1_twos aX1_distances aX1_reached f_swaps f_there f_size f_mostShares f_rows f_ones f_twos Q)) : ∀ (n : Nat) (f_distances : Int → Int) (f_reached : Int → Int) (f_source : Int) (f_looked : Int) (f_ends : Int) (l2 : Int), rr32 f_distances → rr32 f_reached → r32 f_source → r32 f_looked → r32 f_ends → r32 l2 → wp_X1_fewestSteps_40 Q f_rows f_ones f_twos f_swaps f_size f_mostShares n f_distances f_reached f_source f_looked f_ends l2 → Wat X 0 0 40 [(0, .ref hX1), (2, .int (i32 l2))] [] [(hX1, .inr (1, [.ref aX1_rows, .ref aX1_ones, .ref aX1_twos, .ref aX1_distances, .ref aX1_reached, .int (i32 f_swaps), .int (i32 f_there), .int (i32 f_size), .int (i32 f_mostShares), .int (i32 f_source), .int (i32 f_looked), .int (i32 f_ends)])), (aX1_rows, aL X.cJ 2001 f_rows), (aX1_ones, aL X.cJ 31 f_ones), (aX1_twos, aL X.cJ 31 f_twos), (aX1_distances, aI X.cI 2000 f_distances), (aX1_reached, aI X.cI 2000 f_reached)] := by
  intro n
  induction n with
  | zero => intro f_distances f_reached f_source f_looked f_ends l2 r_f_distances r_f_reached r_f_source r_f_looked r_f_ends r_l2 h; exact False.elim h
  | succ n ih =>
    intro f_distances f_reached f_source f_looked f_ends l2 r_f_distances r_f_reached r_f_source r_f_looked r_f_ends r_l2 h
    rw [wp_X1_fewestSteps_40] at h
    refine q_aload_n g 0 0 rfl dX1_fewestSteps_40 ?_
    refine q_get (C := RX1) (T := TX1) (N := 12) g 21 inX1 0 3 rfl rfl (by decide) wF_X1_21 rfl dX1_fewestSteps_41 ?_
    refine q_iload_n g 2 1 rfl dX1_fewestSteps_44 ?_
    obtain ⟨c45, h⟩ := h
    obtain ⟨e45, h⟩ := h
    refine q_iald g 4 rfl c45 e45 (by decide) dX1_fewestSteps_45 ?_
    refine q_if_ge g (52) 98 (r_f_distances _) (by decide) dX1_fewestSteps_46 (fun b46 => ?_) (fun b46 => ?_)
    · replace h := h.1 b46
      exact s_X1_fewestSteps_98 g hR hX1 aX1_rows aX1_ones aX1_twos aX1_distances aX1_reached f_there f_rows f_ones f_twos f_swaps f_size f_mostShares r_f_rows r_f_ones r_f_twos r_f_swaps r_f_size r_f_mostShares Q hF f_distances f_reached f_source f_looked f_ends l2 r_f_distances r_f_reached r_f_source r_f_looked r_f_ends r_l2 h
    replace h := h.2 b46
    refine q_aload_n g 0 0 rfl dX1_fewestSteps_49 ?_
    refine q_get (C := RX1) (T := TX1) (N := 12) g 68 inX1 0 10 rfl rfl (by decide) wF_X1_68 rfl dX1_fewestSteps_50 ?_
    refine q_aload_n g 0 0 rfl dX1_fewestSteps_53 ?_
    refine q_get (C := RX1) (T := TX1) (N := 12) g 71 inX1 0 11 rfl rfl (by decide) wF_X1_71 rfl dX1_fewestSteps_54 ?_
    refine q_icmp_ge g (41) 98 r_f_looked r_f_ends (by decide) dX1_fewestSteps_57 (fun b57 => ?_) (fun b57 => ?_)
    · replace h := h.1 b57
      exact s_X1_fewestSteps_98 g hR hX1 aX1_rows aX1_ones aX1_twos aX1_distances aX1_reached f_there f_rows f_ones f_twos f_swaps f_size f_mostShares r_f_rows r_f_ones r_f_twos r_f_swaps r_f_size r_f_mostShares Q hF f_distances f_reached f_source f_looked f_ends l2 r_f_distances r_f_reached r_f_source r_f_looked r_f_ends r_l2 h
    replace h := h.2 b57
    refine q_aload_n g 0 0 rfl dX1_fewestSteps_60 ?_
    refine q_get (C := RX1) (T := TX1) (N := 12) g 68 inX1 0 10 rfl rfl (by decide) wF_X1_68 rfl dX1_fewestSteps_61 ?_
    refine q_aload_n g 0 0 rfl dX1_fewestSteps_64 ?_
    refine q_get (C := RX1) (T := TX1) (N := 12) g 25 inX1 0 4 rfl rfl (by decide) wF_X1_25 rfl dX1_fewestSteps_65 ?_
    refine q_alenI g 5 2000 rfl rfl dX1_fewestSteps_68 ?_
    refine q_icmp_ge g (29) 98 r_f_looked (r32_lit _ (by decide)) (by decide) dX1_fewestSteps_69 (fun b69 => ?_) (fun b69 => ?_)
    · replace h := h.1 b69
      exact s_X1_fewestSteps_98 g hR hX1 aX1_rows aX1_ones aX1_twos aX1_distances aX1_reached f_there f_rows f_ones f_twos f_swaps f_size f_mostShares r_f_rows r_f_ones r_f_twos r_f_swaps r_f_size r_f_mostShares Q hF f_distances f_reached f_source f_looked f_ends l2 r_f_distances r_f_reached r_f_source r_f_looked r_f_ends r_l2 h
    replace h := h.2 b69
    refine q_aload_n g 0 0 rfl dX1_fewestSteps_72 ?_
    refine q_aload_n g 0 0 rfl dX1_fewestSteps_73 ?_
    refine q_get (C := RX1) (T := TX1) (N := 12) g 25 inX1 0 4 rfl rfl (by decide) wF_X1_25 rfl dX1_fewestSteps_74 ?_
    refine q_aload_n g 0 0 rfl dX1_fewestSteps_77 ?_
    refine q_get (C := RX1) (T := TX1) (N := 12) g 68 inX1 0 10 rfl rfl (by decide) wF_X1_68 rfl dX1_fewestSteps_78 ?_
    obtain ⟨c81, h⟩ := h
    obtain ⟨e81, h⟩ := h
    refine q_iald g 5 rfl c81 e81 (by decide) dX1_fewestSteps_81 ?_
    refine q_callV (lev := 3) (mc := 0) (ms := 0) g 74 (c_X1_lookAround X.l X.D X.cI X.cJ X.zt hX1 aX1_rows aX1_ones aX1_twos aX1_distances aX1_reached f_swaps f_there f_size f_mostShares f_source f_looked f_ends f_rows f_ones f_twos f_distances f_reached (f_reached f_looked) _ r_f_rows r_f_ones r_f_twos r_f_distances r_f_reached r_f_swaps r_f_size r_f_mostShares r_f_ends (r_f_reached _) h) (wr := []) [0, 1, 2, 3, 4, 5] [] rfl rfl rfl (by decide) (by decide) (by decide) (ci := 1) rfl rfl rfl wM_X1_74 wI_X1_lookAround wS_X1_lookAround wZ_X1 wC_X1_lookAround 1 rfl (by decide +kernel) (by rw [hR]; exact ⟨by show 3 + 1 ≤ 4; omega, by show 8 + (4 + 11) + 100 * 3 ≤ 100 * 4; omega⟩) (by rw [hR]; exact ⟨Nat.le_refl _, Nat.le_refl _⟩) (Nat.le_of_ble_eq_true rfl) rfl dX1_fewestSteps_82 (fun rv w1 hq => ?_)
    obtain ⟨f_distances_82, f_reached_82, f_ends_82, rfl, rfl, rf_distances_82, rf_reached_82, rf_ends_82, h⟩ := hq
    show Wat X 0 0 85 [(0, .ref hX1), (2, .int (i32 l2))] [] [(hX1, .inr (1, [.ref aX1_rows, .ref aX1_ones, .ref aX1_twos, .ref aX1_distances, .ref aX1_reached, .int (i32 f_swaps), .int (i32 f_there), .int (i32 f_size), .int (i32 f_mostShares), .int (i32 f_source), .int (i32 f_looked), .int (i32 f_ends_82)])), (aX1_rows, aL X.cJ 2001 f_rows), (aX1_ones, aL X.cJ 31 f_ones), (aX1_twos, aL X.cJ 31 f_twos), (aX1_distances, aI X.cI 2000 f_distances_82), (aX1_reached, aI X.cI 2000 f_reached_82)]
    refine q_aload_n g 0 0 rfl dX1_fewestSteps_85 ?_
    refine q_dup g rfl dX1_fewestSteps_86 ?_
    refine q_get (C := RX1) (T := TX1) (N := 12) g 68 inX1 0 10 rfl rfl (by decide) wF_X1_68 rfl dX1_fewestSteps_87 ?_
    refine q_iconst g (1) dX1_fewestSteps_90 ?_
    obtain ⟨c91, h⟩ := h
    refine q_iadd g dX1_fewestSteps_91 ?_
    refine q_topi c91 (fun x92 ex92 rx92 => ?_)
    replace h := h x92 ex92
    refine q_put (C := RX1) (T := TX1) (N := 12) (ty := .int) (ws' := [(hX1, .inr (1, [.ref aX1_rows, .ref aX1_ones, .ref aX1_twos, .ref aX1_distances, .ref aX1_reached, .int (i32 f_swaps), .int (i32 f_there), .int (i32 f_size), .int (i32 f_mostShares), .int (i32 f_source), .int (i32 x92), .int (i32 f_ends_82)])), (aX1_rows, aL X.cJ 2001 f_rows), (aX1_ones, aL X.cJ 31 f_ones), (aX1_twos, aL X.cJ 31 f_twos), (aX1_distances, aI X.cI 2000 f_distances_82), (aX1_reached, aI X.cI 2000 f_reached_82)]) g 68 inX1 tyX1_ok nmX1 0 10 rfl rfl (by decide) wF_X1_68 rfl rfl rfl rfl (Nat.le_of_ble_eq_true rfl) rfl dX1_fewestSteps_92 ?_
    refine q_goto g (-55) 40 (by decide) dX1_fewestSteps_95 ?_
    exact ih f_distances_82 f_reached_82 f_source x92 f_ends_82 l2 rf_distances_82 rf_reached_82 r_f_source rx92 rf_ends_82 r_l2 h
def wp_X1_fewestSteps (Q : Int → (Int → Int) → (Int → Int) → Int → Int → Int → Prop) (f_rows : Int → Int) (f_ones : Int → Int) (f_twos : Int → Int) (f_distances : Int → Int) (f_reached : Int → Int) (f_swaps : Int) (f_size : Int) (f_mostShares : Int) (f_source : Int) (f_looked : Int) (f_ends : Int) (l1 : Int) (l2 : Int) : Prop := ((l1 < 0 → wp_X1_fewestSteps_24 Q f_rows f_ones f_twos f_swaps f_size f_mostShares f_distances f_reached f_source f_looked f_ends) ∧
  (¬ (l1 < 0) → ((f_size ≤ l1 → wp_X1_fewestSteps_24 Q f_rows f_ones f_twos f_swaps f_size f_mostShares f_distances f_reached f_source f_looked f_ends) ∧
  (¬ (f_size ≤ l1) → ((l2 < 0 → wp_X1_fewestSteps_24 Q f_rows f_ones f_twos f_swaps f_size f_mostShares f_distances f_reached f_source f_looked f_ends) ∧
  (¬ (l2 < 0) → ((l2 < f_size → ((l1 = f_source → (∃ n0 : Nat, wp_X1_fewestSteps_40 Q f_rows f_ones f_twos f_swaps f_size f_mostShares n0 f_distances f_reached f_source f_looked f_ends l2)) ∧
  (¬ (l1 = f_source) → wp_X1_setOut (fun (f_distances_37 : Int → Int) (f_reached_37 : Int → Int) (f_source_37 : Int) (f_looked_37 : Int) (f_ends_37 : Int) => (∃ n0 : Nat, wp_X1_fewestSteps_40 Q f_rows f_ones f_twos f_swaps f_size f_mostShares n0 f_distances_37 f_reached_37 f_source_37 f_looked_37 f_ends_37 l2)) f_distances f_reached f_source f_looked f_ends l1))) ∧
  (¬ (l2 < f_size) → wp_X1_fewestSteps_24 Q f_rows f_ones f_twos f_swaps f_size f_mostShares f_distances f_reached f_source f_looked f_ends))))))))
set_option maxHeartbeats 4000000 in
set_option maxRecDepth 100000 in
theorem c_X1_fewestSteps (l : Launch) (D : va_G) (cI cJ : ClassId) (zt : Nat) (hX1 : Nat) (aX1_rows : Nat) (aX1_ones : Nat) (aX1_twos : Nat) (aX1_distances : Nat) (aX1_reached : Nat) (f_swaps : Int) (f_there : Int) (f_size : Int) (f_mostShares : Int) (f_source : Int) (f_looked : Int) (f_ends : Int) (f_rows : Int → Int) (f_ones : Int → Int) (f_twos : Int → Int) (f_distances : Int → Int) (f_reached : Int → Int) (l1 : Int) (l2 : Int) (Q : Int → (Int → Int) → (Int → Int) → Int → Int → Int → Prop) (r_f_rows : rr64 f_rows) (r_f_ones : rr64 f_ones) (r_f_twos : rr64 f_twos) (r_f_distances : rr32 f_distances) (r_f_reached : rr32 f_reached) (r_f_swaps : r32 f_swaps) (r_f_size : r32 f_size) (r_f_mostShares : r32 f_mostShares) (r_f_source : r32 f_source) (r_f_looked : r32 f_looked) (r_f_ends : r32 f_ends) (r_l1 : r32 l1) (r_l2 : r32 l2) (h : wp_X1_fewestSteps Q f_rows f_ones f_twos f_distances f_reached f_swaps f_size f_mostShares f_source f_looked f_ends l1 l2) : Ct l D cI cJ zt yX1_fewestSteps cX1_fewestSteps 3 (some .int) 4 0 0 [.ref hX1, .int (i32 l1), .int (i32 l2)] [(hX1, .inr (1, [.ref aX1_rows, .ref aX1_ones, .ref aX1_twos, .ref aX1_distances, .ref aX1_reached, .int (i32 f_swaps), .int (i32 f_there), .int (i32 f_size), .int (i32 f_mostShares), .int (i32 f_source), .int (i32 f_looked), .int (i32 f_ends)])), (aX1_rows, aL cJ 2001 f_rows), (aX1_ones, aL cJ 31 f_ones), (aX1_twos, aL cJ 31 f_twos), (aX1_distances, aI cI 2000 f_distances), (aX1_reached, aI cI 2000 f_reached)] (po_X1_fewestSteps cI cJ hX1 aX1_rows aX1_ones aX1_twos aX1_distances aX1_reached f_swaps f_there f_size f_mostShares f_rows f_ones f_twos Q) := by
  refine ct_of (by decide +kernel) (Nat.le_of_ble_eq_true rfl) (fun X hl hDD hcI hcJ hzt hR hF hnm g => ?_)
  subst hl; subst hDD; subst hcI; subst hcJ; subst hzt
  show Wat X 0 0 0 [(0, .ref hX1), (1, .int (i32 l1)), (2, .int (i32 l2))] [] [(hX1, .inr (1, [.ref aX1_rows, .ref aX1_ones, .ref aX1_twos, .ref aX1_distances, .ref aX1_reached, .int (i32 f_swaps), .int (i32 f_there), .int (i32 f_size), .int (i32 f_mostShares), .int (i32 f_source), .int (i32 f_looked), .int (i32 f_ends)])), (aX1_rows, aL X.cJ 2001 f_rows), (aX1_ones, aL X.cJ 31 f_ones), (aX1_twos, aL X.cJ 31 f_twos), (aX1_distances, aI X.cI 2000 f_distances), (aX1_reached, aI X.cI 2000 f_reached)]
  replace g : Gd X cX1_fewestSteps RX1 (some .int) 3 := g
  rw [wp_X1_fewestSteps] at h
  refine q_iload_n g 1 1 rfl dX1_fewestSteps_0 ?_
  refine q_if_lt g (23) 24 r_l1 (by decide) dX1_fewestSteps_1 (fun b1 => ?_) (fun b1 => ?_)
  · replace h := h.1 b1
    refine q_lv (lv' := []) [] rfl ?_
    exact s_X1_fewestSteps_24 g hR hX1 aX1_rows aX1_ones aX1_twos aX1_distances aX1_reached f_there f_rows f_ones f_twos f_swaps f_size f_mostShares r_f_rows r_f_ones r_f_twos r_f_swaps r_f_size r_f_mostShares Q hF f_distances f_reached f_source f_looked f_ends r_f_distances r_f_reached r_f_source r_f_looked r_f_ends h
  replace h := h.2 b1
  refine q_iload_n g 1 1 rfl dX1_fewestSteps_4 ?_
  refine q_aload_n g 0 0 rfl dX1_fewestSteps_5 ?_
  refine q_get (C := RX1) (T := TX1) (N := 12) g 45 inX1 0 7 rfl rfl (by decide) wF_X1_45 rfl dX1_fewestSteps_6 ?_
  refine q_icmp_ge g (15) 24 r_l1 r_f_size (by decide) dX1_fewestSteps_9 (fun b9 => ?_) (fun b9 => ?_)
  · replace h := h.1 b9
    refine q_lv (lv' := []) [] rfl ?_
    exact s_X1_fewestSteps_24 g hR hX1 aX1_rows aX1_ones aX1_twos aX1_distances aX1_reached f_there f_rows f_ones f_twos f_swaps f_size f_mostShares r_f_rows r_f_ones r_f_twos r_f_swaps r_f_size r_f_mostShares Q hF f_distances f_reached f_source f_looked f_ends r_f_distances r_f_reached r_f_source r_f_looked r_f_ends h
  replace h := h.2 b9
  refine q_iload_n g 2 2 rfl dX1_fewestSteps_12 ?_
  refine q_if_lt g (11) 24 r_l2 (by decide) dX1_fewestSteps_13 (fun b13 => ?_) (fun b13 => ?_)
  · replace h := h.1 b13
    refine q_lv (lv' := []) [] rfl ?_
    exact s_X1_fewestSteps_24 g hR hX1 aX1_rows aX1_ones aX1_twos aX1_distances aX1_reached f_there f_rows f_ones f_twos f_swaps f_size f_mostShares r_f_rows r_f_ones r_f_twos r_f_swaps r_f_size r_f_mostShares Q hF f_distances f_reached f_source f_looked f_ends r_f_distances r_f_reached r_f_source r_f_looked r_f_ends h
  replace h := h.2 b13
  refine q_iload_n g 2 2 rfl dX1_fewestSteps_16 ?_
  refine q_aload_n g 0 0 rfl dX1_fewestSteps_17 ?_
  refine q_get (C := RX1) (T := TX1) (N := 12) g 45 inX1 0 7 rfl rfl (by decide) wF_X1_45 rfl dX1_fewestSteps_18 ?_
  refine q_icmp_lt g (6) 27 r_l2 r_f_size (by decide) dX1_fewestSteps_21 (fun b21 => ?_) (fun b21 => ?_)
  · replace h := h.1 b21
    refine q_iload_n g 1 1 rfl dX1_fewestSteps_27 ?_
    refine q_aload_n g 0 0 rfl dX1_fewestSteps_28 ?_
    refine q_get (C := RX1) (T := TX1) (N := 12) g 28 inX1 0 9 rfl rfl (by decide) wF_X1_28 rfl dX1_fewestSteps_29 ?_
    refine q_icmp_eq g (8) 40 r_l1 r_f_source (by decide) dX1_fewestSteps_32 (fun b32 => ?_) (fun b32 => ?_)
    · replace h := h.1 b32
      refine q_lv (lv' := [(0, .ref hX1), (2, .int (i32 l2))]) [0, 2] rfl ?_
      obtain ⟨n0, h⟩ := h
      exact s_X1_fewestSteps_40 g hR hX1 aX1_rows aX1_ones aX1_twos aX1_distances aX1_reached f_there f_rows f_ones f_twos f_swaps f_size f_mostShares r_f_rows r_f_ones r_f_twos r_f_swaps r_f_size r_f_mostShares Q hF n0 f_distances f_reached f_source f_looked f_ends l2 r_f_distances r_f_reached r_f_source r_f_looked r_f_ends r_l2 h
    replace h := h.2 b32
    refine q_aload_n g 0 0 rfl dX1_fewestSteps_35 ?_
    refine q_iload_n g 1 1 rfl dX1_fewestSteps_36 ?_
    refine q_callV (lev := 2) (mc := 0) (ms := 0) g 64 (c_X1_setOut X.l X.D X.cI X.cJ X.zt hX1 aX1_rows aX1_ones aX1_twos aX1_distances aX1_reached f_swaps f_there f_size f_mostShares f_source f_looked f_ends f_distances f_reached l1 _ r_f_distances r_f_reached r_f_source r_f_looked r_f_ends r_l1 h) (wr := [(aX1_rows, aL X.cJ 2001 f_rows), (aX1_ones, aL X.cJ 31 f_ones), (aX1_twos, aL X.cJ 31 f_twos)]) [0, 4, 5] [1, 2, 3] rfl rfl rfl (by decide) (by decide) (by decide) (ci := 1) rfl rfl rfl wM_X1_64 wI_X1_setOut wS_X1_setOut wZ_X1 wC_X1_setOut 1 rfl (by decide +kernel) (by rw [hR]; exact ⟨by show 2 + 1 ≤ 4; omega, by show 8 + (2 + 11) + 100 * 2 ≤ 100 * 4; omega⟩) (by rw [hR]; exact ⟨Nat.le_refl _, Nat.le_refl _⟩) (Nat.le_of_ble_eq_true rfl) rfl dX1_fewestSteps_37 (fun rv w1 hq => ?_)
    obtain ⟨f_distances_37, f_reached_37, f_source_37, f_looked_37, f_ends_37, rfl, rfl, rf_distances_37, rf_reached_37, rf_source_37, rf_looked_37, rf_ends_37, h⟩ := hq
    refine q_ws (ws' := [(hX1, .inr (1, [.ref aX1_rows, .ref aX1_ones, .ref aX1_twos, .ref aX1_distances, .ref aX1_reached, .int (i32 f_swaps), .int (i32 f_there), .int (i32 f_size), .int (i32 f_mostShares), .int (i32 f_source_37), .int (i32 f_looked_37), .int (i32 f_ends_37)])), (aX1_rows, aL X.cJ 2001 f_rows), (aX1_ones, aL X.cJ 31 f_ones), (aX1_twos, aL X.cJ 31 f_twos), (aX1_distances, aI X.cI 2000 f_distances_37), (aX1_reached, aI X.cI 2000 f_reached_37)]) [3, 0, 1, 2, 4, 5] (by decide) rfl rfl ?_
    show Wat X 0 0 40 [(0, .ref hX1), (1, .int (i32 l1)), (2, .int (i32 l2))] [] [(hX1, .inr (1, [.ref aX1_rows, .ref aX1_ones, .ref aX1_twos, .ref aX1_distances, .ref aX1_reached, .int (i32 f_swaps), .int (i32 f_there), .int (i32 f_size), .int (i32 f_mostShares), .int (i32 f_source_37), .int (i32 f_looked_37), .int (i32 f_ends_37)])), (aX1_rows, aL X.cJ 2001 f_rows), (aX1_ones, aL X.cJ 31 f_ones), (aX1_twos, aL X.cJ 31 f_twos), (aX1_distances, aI X.cI 2000 f_distances_37), (aX1_reached, aI X.cI 2000 f_reached_37)]
    refine q_lv (lv' := [(0, .ref hX1), (2, .int (i32 l2))]) [0, 2] rfl ?_
    obtain ⟨n0, h⟩ := h
    exact s_X1_fewestSteps_40 g hR hX1 aX1_rows aX1_ones aX1_twos aX1_distances aX1_reached f_there f_rows f_ones f_twos f_swaps f_size f_mostShares r_f_rows r_f_ones r_f_twos r_f_swaps r_f_size r_f_mostShares Q hF n0 f_distances_37 f_reached_37 f_source_37 f_looked_37 f_ends_37 l2 rf_distances_37 rf_reached_37 rf_source_37 rf_looked_37 rf_ends_37 r_l2 h
  replace h := h.2 b21
  refine q_lv (lv' := []) [] rfl ?_
  exact s_X1_fewestSteps_24 g hR hX1 aX1_rows aX1_ones aX1_twos aX1_distances aX1_reached f_there f_rows f_ones f_twos f_swaps f_size f_mostShares r_f_rows r_f_ones r_f_twos r_f_swaps r_f_size r_f_mostShares Q hF f_distances f_reached f_source f_looked f_ends r_f_distances r_f_reached r_f_source r_f_looked r_f_ends h
theorem dX1_isThere_0 : decode cX1_isThere 0 = .ok (.aload_n 0, 1) := by decide +kernel
theorem dX1_isThere_1 : decode cX1_isThere 1 = .ok (.getfield 41, 3) := by decide +kernel
theorem dX1_isThere_4 : decode cX1_isThere 4 = .ok (.ireturn, 1) := by decide +kernel
abbrev po_X1_isThere (cI cJ : ClassId) (hX1 : Nat) (aX1_rows : Nat) (aX1_ones : Nat) (aX1_twos : Nat) (aX1_distances : Nat) (aX1_reached : Nat) (f_swaps : Int) (f_there : Int) (f_size : Int) (f_mostShares : Int) (f_source : Int) (f_looked : Int) (f_ends : Int) (Q : Int → Prop) : Option Value → va_W → Prop := fun rv w1 => ∃ (r0 : Int), rv = some (.int (i32 r0)) ∧ w1 = [(hX1, .inr (1, [.ref aX1_rows, .ref aX1_ones, .ref aX1_twos, .ref aX1_distances, .ref aX1_reached, .int (i32 f_swaps), .int (i32 f_there), .int (i32 f_size), .int (i32 f_mostShares), .int (i32 f_source), .int (i32 f_looked), .int (i32 f_ends)]))] ∧ r32 r0 ∧ Q r0
def wp_X1_isThere (Q : Int → Prop) (f_there : Int) : Prop := ((f_there = 0 ∨ f_there = 1) ∧ Q f_there)
set_option maxHeartbeats 4000000 in
set_option maxRecDepth 100000 in
theorem c_X1_isThere (l : Launch) (D : va_G) (cI cJ : ClassId) (zt : Nat) (hX1 : Nat) (aX1_rows : Nat) (aX1_ones : Nat) (aX1_twos : Nat) (aX1_distances : Nat) (aX1_reached : Nat) (f_swaps : Int) (f_there : Int) (f_size : Int) (f_mostShares : Int) (f_source : Int) (f_looked : Int) (f_ends : Int) (Q : Int → Prop) (r_f_there : r32 f_there) (h : wp_X1_isThere Q f_there) : Ct l D cI cJ zt yX1_isThere cX1_isThere 1 (some .boolean) 1 0 0 [.ref hX1] [(hX1, .inr (1, [.ref aX1_rows, .ref aX1_ones, .ref aX1_twos, .ref aX1_distances, .ref aX1_reached, .int (i32 f_swaps), .int (i32 f_there), .int (i32 f_size), .int (i32 f_mostShares), .int (i32 f_source), .int (i32 f_looked), .int (i32 f_ends)]))] (po_X1_isThere cI cJ hX1 aX1_rows aX1_ones aX1_twos aX1_distances aX1_reached f_swaps f_there f_size f_mostShares f_source f_looked f_ends Q) := by
  refine ct_of (by decide +kernel) (Nat.le_of_ble_eq_true rfl) (fun X hl hDD hcI hcJ hzt hR hF hnm g => ?_)
  subst hl; subst hDD; subst hcI; subst hcJ; subst hzt
  show Wat X 0 0 0 [(0, .ref hX1)] [] [(hX1, .inr (1, [.ref aX1_rows, .ref aX1_ones, .ref aX1_twos, .ref aX1_distances, .ref aX1_reached, .int (i32 f_swaps), .int (i32 f_there), .int (i32 f_size), .int (i32 f_mostShares), .int (i32 f_source), .int (i32 f_looked), .int (i32 f_ends)]))]
  replace g : Gd X cX1_isThere RX1 (some .boolean) 1 := g
  rw [wp_X1_isThere] at h
  refine q_aload_n g 0 0 rfl dX1_isThere_0 ?_
  refine q_get (C := RX1) (T := TX1) (N := 12) g 41 inX1 0 6 rfl rfl (by decide) wF_X1_41 rfl dX1_isThere_1 ?_
  obtain ⟨z4, h⟩ := h
  exact q_zret g hF z4 ⟨f_there, rfl, rfl, r_f_there, h⟩ dX1_isThere_4
theorem dX1_neighbours_0 : decode cX1_neighbours 0 = .ok (.iconst 0, 1) := by decide +kernel
theorem dX1_neighbours_1 : decode cX1_neighbours 1 = .ok (.istore_n 2, 1) := by decide +kernel
theorem dX1_neighbours_2 : decode cX1_neighbours 2 = .ok (.iconst 0, 1) := by decide +kernel
theorem dX1_neighbours_3 : decode cX1_neighbours 3 = .ok (.istore_n 3, 1) := by decide +kernel
theorem dX1_neighbours_4 : decode cX1_neighbours 4 = .ok (.iload_n 3, 1) := by decide +kernel
theorem dX1_neighbours_5 : decode cX1_neighbours 5 = .ok (.aload_n 0, 1) := by decide +kernel
theorem dX1_neighbours_6 : decode cX1_neighbours 6 = .ok (.getfield 34, 3) := by decide +kernel
theorem dX1_neighbours_9 : decode cX1_neighbours 9 = .ok (.if_icmp .ge 25, 3) := by decide +kernel
theorem dX1_neighbours_12 : decode cX1_neighbours 12 = .ok (.aload_n 0, 1) := by decide +kernel
theorem dX1_neighbours_13 : decode cX1_neighbours 13 = .ok (.aload_n 0, 1) := by decide +kernel
theorem dX1_neighbours_14 : decode cX1_neighbours 14 = .ok (.iload_n 1, 1) := by decide +kernel
theorem dX1_neighbours_15 : decode cX1_neighbours 15 = .ok (.invokevirtual 51, 3) := by decide +kernel
theorem dX1_neighbours_18 : decode cX1_neighbours 18 = .ok (.iload_n 3, 1) := by decide +kernel
theorem dX1_neighbours_19 : decode cX1_neighbours 19 = .ok (.invokevirtual 60, 3) := by decide +kernel
theorem dX1_neighbours_22 : decode cX1_neighbours 22 = .ok (.ifCond .lt 6, 3) := by decide +kernel
theorem dX1_neighbours_25 : decode cX1_neighbours 25 = .ok (.iinc 2 1, 3) := by decide +kernel
theorem dX1_neighbours_28 : decode cX1_neighbours 28 = .ok (.iinc 3 1, 3) := by decide +kernel
theorem dX1_neighbours_31 : decode cX1_neighbours 31 = .ok (.goto (-27), 3) := by decide +kernel
theorem dX1_neighbours_34 : decode cX1_neighbours 34 = .ok (.iload_n 2, 1) := by decide +kernel
theorem dX1_neighbours_35 : decode cX1_neighbours 35 = .ok (.ireturn, 1) := by decide +kernel
abbrev po_X1_neighbours (cI cJ : ClassId) (hX1 : Nat) (aX1_rows : Nat) (aX1_ones : Nat) (aX1_twos : Nat) (aX1_distances : Nat) (aX1_reached : Nat) (f_swaps : Int) (f_there : Int) (f_size : Int) (f_mostShares : Int) (f_source : Int) (f_looked : Int) (f_ends : Int) (f_rows : Int → Int) (f_ones : Int → Int) (f_twos : Int → Int) (Q : Int → Prop) : Option Value → va_W → Prop := fun rv w1 => ∃ (r0 : Int), rv = some (.int (i32 r0)) ∧ w1 = [(hX1, .inr (1, [.ref aX1_rows, .ref aX1_ones, .ref aX1_twos, .ref aX1_distances, .ref aX1_reached, .int (i32 f_swaps), .int (i32 f_there), .int (i32 f_size), .int (i32 f_mostShares), .int (i32 f_source), .int (i32 f_looked), .int (i32 f_ends)])), (aX1_rows, aL cJ 2001 f_rows), (aX1_ones, aL cJ 31 f_ones), (aX1_twos, aL cJ 31 f_twos)] ∧ r32 r0 ∧ Q r0
def wp_X1_neighbours_28 (Q : Int → Prop) (f_rows : Int → Int) (f_ones : Int → Int) (f_twos : Int → Int) (f_swaps : Int) (f_size : Int) (f_mostShares : Int) (K_4 : Int → Int → Int → Prop) (l1 : Int) (l2 : Int) (l3 : Int) : Prop := (r32 (l3 + 1) ∧ K_4 l1 l2 (l3 + 1))
set_option maxHeartbeats 4000000 in
set_option maxRecDepth 100000 in
theorem s_X1_neighbours_28 {X : Cx} (g : Gd X cX1_neighbours RX1 (some .int) 4) (hR : X.R = rmL 3 0 0) (hX1 : Nat) (aX1_rows : Nat) (aX1_ones : Nat) (aX1_twos : Nat) (aX1_distances : Nat) (aX1_reached : Nat) (f_there : Int) (f_source : Int) (f_looked : Int) (f_ends : Int) (f_rows : Int → Int) (f_ones : Int → Int) (f_twos : Int → Int) (f_swaps : Int) (f_size : Int) (f_mostShares : Int) (r_f_rows : rr64 f_rows) (r_f_ones : rr64 f_ones) (r_f_twos : rr64 f_twos) (r_f_swaps : r32 f_swaps) (r_f_size : r32 f_size) (r_f_mostShares : r32 f_mostShares) (Q : Int → Prop) (hF : FQ X 0 0 (po_X1_neighbours X.cI X.cJ hX1 aX1_rows aX1_ones aX1_twos aX1_distances aX1_reached f_swaps f_there f_size f_mostShares f_source f_looked f_ends f_rows f_ones f_twos Q)) (K_4 : Int → Int → Int → Prop) (hK_4 : ∀ (l1 : Int) (l2 : Int) (l3 : Int), r32 l1 → r32 l2 → r32 l3 → K_4 l1 l2 l3 → Wat X 0 0 4 [(0, .ref hX1), (1, .int (i32 l1)), (2, .int (i32 l2)), (3, .int (i32 l3))] [] [(hX1, .inr (1, [.ref aX1_rows, .ref aX1_ones, .ref aX1_twos, .ref aX1_distances, .ref aX1_reached, .int (i32 f_swaps), .int (i32 f_there), .int (i32 f_size), .int (i32 f_mostShares), .int (i32 f_source), .int (i32 f_looked), .int (i32 f_ends)])), (aX1_rows, aL X.cJ 2001 f_rows), (aX1_ones, aL X.cJ 31 f_ones), (aX1_twos, aL X.cJ 31 f_twos)]) : ∀ (l1 : Int) (l2 : Int) (l3 : Int), r32 l1 → r32 l2 → r32 l3 → wp_X1_neighbours_28 Q f_rows f_ones f_twos f_swaps f_size f_mostShares K_4 l1 l2 l3 → Wat X 0 0 28 [(0, .ref hX1), (1, .int (i32 l1)), (2, .int (i32 l2)), (3, .int (i32 l3))] [] [(hX1, .inr (1, [.ref aX1_rows, .ref aX1_ones, .ref aX1_twos, .ref aX1_distances, .ref aX1_reached, .int (i32 f_swaps), .int (i32 f_there), .int (i32 f_size), .int (i32 f_mostShares), .int (i32 f_source), .int (i32 f_looked), .int (i32 f_ends)])), (aX1_rows, aL X.cJ 2001 f_rows), (aX1_ones, aL X.cJ 31 f_ones), (aX1_twos, aL X.cJ 31 f_twos)] := by
  intro l1 l2 l3 r_l1 r_l2 r_l3 h
  rw [wp_X1_neighbours_28] at h
  obtain ⟨c28, h⟩ := h
  refine q_iinc (lv' := [(3, .int (i32 (l3 + 1))), (0, .ref hX1), (1, .int (i32 l1)), (2, .int (i32 l2))]) g 3 3 1 (by decide) rfl rfl dX1_neighbours_28 ?_
  refine q_goto g (-27) 4 (by decide) dX1_neighbours_31 ?_
  refine q_lv (lv' := [(0, .ref hX1), (1, .int (i32 l1)), (2, .int (i32 l2)), (3, .int (i32 (l3 + 1)))]) [1, 2, 3, 0] rfl ?_
  exact hK_4 l1 l2 (l3 + 1) r_l1 r_l2 c28 h
def wp_X1_neighbours_4 (Q : Int → Prop) (f_rows : Int → Int) (f_ones : Int → Int) (f_twos : Int → Int) (f_swaps : Int) (f_size : Int) (f_mostShares : Int) : Nat → Int → Int → Int → Prop
  | 0, _, _, _ => False
  | n + 1, l1, l2, l3 => ((f_swaps ≤ l3 → Q l2) ∧
  (¬ (f_swaps ≤ l3) → wp_X1_at (fun (x15 : Int) => wp_X1_across (fun (x19 : Int) => ((x19 < 0 → wp_X1_neighbours_28 Q f_rows f_ones f_twos f_swaps f_size f_mostShares (wp_X1_neighbours_4 Q f_rows f_ones f_twos f_swaps f_size f_mostShares n) l1 l2 l3) ∧
  (¬ (x19 < 0) → (r32 (l2 + 1) ∧ wp_X1_neighbours_28 Q f_rows f_ones f_twos f_swaps f_size f_mostShares (wp_X1_neighbours_4 Q f_rows f_ones f_twos f_swaps f_size f_mostShares n) l1 (l2 + 1) l3)))) f_rows f_ones f_twos f_size f_mostShares x15 l3) f_rows l1))
set_option maxHeartbeats 4000000 in
set_option maxRecDepth 100000 in
theorem s_X1_neighbours_4 {X : Cx} (g : Gd X cX1_neighbours RX1 (some .int) 4) (hR : X.R = rmL 3 0 0) (hX1 : Nat) (aX1_rows : Nat) (aX1_ones : Nat) (aX1_twos : Nat) (aX1_distances : Nat) (aX1_reached : Nat) (f_there : Int) (f_source : Int) (f_looked : Int) (f_ends : Int) (f_rows : Int → Int) (f_ones : Int → Int) (f_twos : Int → Int) (f_swaps : Int) (f_size : Int) (f_mostShares : Int) (r_f_rows : rr64 f_rows) (r_f_ones : rr64 f_ones) (r_f_twos : rr64 f_twos) (r_f_swaps : r32 f_swaps) (r_f_size : r32 f_size) (r_f_mostShares : r32 f_mostShares) (Q : Int → Prop) (hF : FQ X 0 0 (po_X1_neighbours X.cI X.cJ hX1 aX1_rows aX1_ones aX1_twos aX1_distances aX1_reached f_swaps f_there f_size f_mostShares f_source f_looked f_ends f_rows f_ones f_twos Q)) : ∀ (n : Nat) (l1 : Int) (l2 : Int) (l3 : Int), r32 l1 → r32 l2 → r32 l3 → wp_X1_neighbours_4 Q f_rows f_ones f_twos f_swaps f_size f_mostShares n l1 l2 l3 → Wat X 0 0 4 [(0, .ref hX1), (1, .int (i32 l1)), (2, .int (i32 l2)), (3, .int (i32 l3))] [] [(hX1, .inr (1, [.ref aX1_rows, .ref aX1_ones, .ref aX1_twos, .ref aX1_distances, .ref aX1_reached, .int (i32 f_swaps), .int (i32 f_there), .int (i32 f_size), .int (i32 f_mostShares), .int (i32 f_source), .int (i32 f_looked), .int (i32 f_ends)])), (aX1_rows, aL X.cJ 2001 f_rows), (aX1_ones, aL X.cJ 31 f_ones), (aX1_twos, aL X.cJ 31 f_twos)] := by
  intro n
  induction n with
  | zero => intro l1 l2 l3 r_l1 r_l2 r_l3 h; exact False.elim h
  | succ n ih =>
    intro l1 l2 l3 r_l1 r_l2 r_l3 h
    rw [wp_X1_neighbours_4] at h
    refine q_iload_n g 3 3 rfl dX1_neighbours_4 ?_
    refine q_aload_n g 0 0 rfl dX1_neighbours_5 ?_
    refine q_get (C := RX1) (T := TX1) (N := 12) g 34 inX1 0 5 rfl rfl (by decide) wF_X1_34 rfl dX1_neighbours_6 ?_
    refine q_icmp_ge g (25) 34 r_l3 r_f_swaps (by decide) dX1_neighbours_9 (fun b9 => ?_) (fun b9 => ?_)
    · replace h := h.1 b9
      refine q_iload_n g 2 2 rfl dX1_neighbours_34 ?_
      exact q_iret g hF ⟨l2, rfl, rfl, r_l2, h⟩ dX1_neighbours_35
    replace h := h.2 b9
    refine q_aload_n g 0 0 rfl dX1_neighbours_12 ?_
    refine q_aload_n g 0 0 rfl dX1_neighbours_13 ?_
    refine q_iload_n g 1 1 rfl dX1_neighbours_14 ?_
    refine q_callV (lev := 1) (mc := 0) (ms := 0) g 51 (c_X1_at X.l X.D X.cI X.cJ X.zt hX1 aX1_rows aX1_ones aX1_twos aX1_distances aX1_reached f_swaps f_there f_size f_mostShares f_source f_looked f_ends f_rows l1 _ r_f_rows r_l1 h) (wr := [(aX1_ones, aL X.cJ 31 f_ones), (aX1_twos, aL X.cJ 31 f_twos)]) [0, 1] [2, 3] rfl rfl rfl (by decide) (by decide) (by decide) (ci := 1) rfl rfl rfl wM_X1_51 wI_X1_at wS_X1_at wZ_X1 wC_X1_at 1 rfl (by decide +kernel) (by rw [hR]; exact ⟨by show 1 + 1 ≤ 3; omega, by show 8 + (2 + 11) + 100 * 1 ≤ 100 * 3; omega⟩) (by rw [hR]; exact ⟨Nat.le_refl _, Nat.le_refl _⟩) (Nat.le_of_ble_eq_true rfl) rfl dX1_neighbours_15 (fun rv w1 hq => ?_)
    obtain ⟨x15, rfl, rfl, rx15, h⟩ := hq
    refine q_ws (ws' := [(hX1, .inr (1, [.ref aX1_rows, .ref aX1_ones, .ref aX1_twos, .ref aX1_distances, .ref aX1_reached, .int (i32 f_swaps), .int (i32 f_there), .int (i32 f_size), .int (i32 f_mostShares), .int (i32 f_source), .int (i32 f_looked), .int (i32 f_ends)])), (aX1_rows, aL X.cJ 2001 f_rows), (aX1_ones, aL X.cJ 31 f_ones), (aX1_twos, aL X.cJ 31 f_twos)]) [2, 3, 0, 1] (by decide) rfl rfl ?_
    show Wat X 0 0 18 [(0, .ref hX1), (1, .int (i32 l1)), (2, .int (i32 l2)), (3, .int (i32 l3))] [.long (i64 x15), .ref hX1] [(hX1, .inr (1, [.ref aX1_rows, .ref aX1_ones, .ref aX1_twos, .ref aX1_distances, .ref aX1_reached, .int (i32 f_swaps), .int (i32 f_there), .int (i32 f_size), .int (i32 f_mostShares), .int (i32 f_source), .int (i32 f_looked), .int (i32 f_ends)])), (aX1_rows, aL X.cJ 2001 f_rows), (aX1_ones, aL X.cJ 31 f_ones), (aX1_twos, aL X.cJ 31 f_twos)]
    refine q_iload_n g 3 3 rfl dX1_neighbours_18 ?_
    refine q_callV (lev := 2) (mc := 0) (ms := 0) g 60 (c_X1_across X.l X.D X.cI X.cJ X.zt hX1 aX1_rows aX1_ones aX1_twos aX1_distances aX1_reached f_swaps f_there f_size f_mostShares f_source f_looked f_ends f_rows f_ones f_twos x15 l3 _ r_f_rows r_f_ones r_f_twos r_f_size r_f_mostShares rx15 r_l3 h) (wr := []) [0, 1, 2, 3] [] rfl rfl rfl (by decide) (by decide) (by decide) (ci := 1) rfl rfl rfl wM_X1_60 wI_X1_across wS_X1_across wZ_X1 wC_X1_across 2 rfl (by decide +kernel) (by rw [hR]; exact ⟨by show 2 + 1 ≤ 3; omega, by show 8 + (10 + 11) + 100 * 2 ≤ 100 * 3; omega⟩) (by rw [hR]; exact ⟨Nat.le_refl _, Nat.le_refl _⟩) (Nat.le_of_ble_eq_true rfl) rfl dX1_neighbours_19 (fun rv w1 hq => ?_)
    obtain ⟨x19, rfl, rfl, rx19, h⟩ := hq
    show Wat X 0 0 22 [(0, .ref hX1), (1, .int (i32 l1)), (2, .int (i32 l2)), (3, .int (i32 l3))] [.int (i32 x19)] [(hX1, .inr (1, [.ref aX1_rows, .ref aX1_ones, .ref aX1_twos, .ref aX1_distances, .ref aX1_reached, .int (i32 f_swaps), .int (i32 f_there), .int (i32 f_size), .int (i32 f_mostShares), .int (i32 f_source), .int (i32 f_looked), .int (i32 f_ends)])), (aX1_rows, aL X.cJ 2001 f_rows), (aX1_ones, aL X.cJ 31 f_ones), (aX1_twos, aL X.cJ 31 f_twos)]
    refine q_if_lt g (6) 28 rx19 (by decide) dX1_neighbours_22 (fun b22 => ?_) (fun b22 => ?_)
    · replace h := h.1 b22
      exact s_X1_neighbours_28 g hR hX1 aX1_rows aX1_ones aX1_twos aX1_distances aX1_reached f_there f_source f_looked f_ends f_rows f_ones f_twos f_swaps f_size f_mostShares r_f_rows r_f_ones r_f_twos r_f_swaps r_f_size r_f_mostShares Q hF (wp_X1_neighbours_4 Q f_rows f_ones f_twos f_swaps f_size f_mostShares n) (fun v0 v1 v2 w0 w1 w2 hh => ih v0 v1 v2 w0 w1 w2 hh) l1 l2 l3 r_l1 r_l2 r_l3 h
    replace h := h.2 b22
    obtain ⟨c25, h⟩ := h
    refine q_iinc (lv' := [(2, .int (i32 (l2 + 1))), (0, .ref hX1), (1, .int (i32 l1)), (3, .int (i32 l3))]) g 2 2 1 (by decide) rfl rfl dX1_neighbours_25 ?_
    refine q_lv (lv' := [(0, .ref hX1), (1, .int (i32 l1)), (2, .int (i32 (l2 + 1))), (3, .int (i32 l3))]) [1, 2, 0, 3] rfl ?_
    exact s_X1_neighbours_28 g hR hX1 aX1_rows aX1_ones aX1_twos aX1_distances aX1_reached f_there f_source f_looked f_ends f_rows f_ones f_twos f_swaps f_size f_mostShares r_f_rows r_f_ones r_f_twos r_f_swaps r_f_size r_f_mostShares Q hF (wp_X1_neighbours_4 Q f_rows f_ones f_twos f_swaps f_size f_mostShares n) (fun v0 v1 v2 w0 w1 w2 hh => ih v0 v1 v2 w0 w1 w2 hh) l1 (l2 + 1) l3 r_l1 c25 r_l3 h
def wp_X1_neighbours (Q : Int → Prop) (f_rows : Int → Int) (f_ones : Int → Int) (f_twos : Int → Int) (f_swaps : Int) (f_size : Int) (f_mostShares : Int) (l1 : Int) : Prop := (∃ n0 : Nat, wp_X1_neighbours_4 Q f_rows f_ones f_twos f_swaps f_size f_mostShares n0 l1 0 0)
set_option maxHeartbeats 4000000 in
set_option maxRecDepth 100000 in
theorem c_X1_neighbours (l : Launch) (D : va_G) (cI cJ : ClassId) (zt : Nat) (hX1 : Nat) (aX1_rows : Nat) (aX1_ones : Nat) (aX1_twos : Nat) (aX1_distances : Nat) (aX1_reached : Nat) (f_swaps : Int) (f_there : Int) (f_size : Int) (f_mostShares : Int) (f_source : Int) (f_looked : Int) (f_ends : Int) (f_rows : Int → Int) (f_ones : Int → Int) (f_twos : Int → Int) (l1 : Int) (Q : Int → Prop) (r_f_rows : rr64 f_rows) (r_f_ones : rr64 f_ones) (r_f_twos : rr64 f_twos) (r_f_swaps : r32 f_swaps) (r_f_size : r32 f_size) (r_f_mostShares : r32 f_mostShares) (r_l1 : r32 l1) (h : wp_X1_neighbours Q f_rows f_ones f_twos f_swaps f_size f_mostShares l1) : Ct l D cI cJ zt yX1_neighbours cX1_neighbours 4 (some .int) 3 0 0 [.ref hX1, .int (i32 l1)] [(hX1, .inr (1, [.ref aX1_rows, .ref aX1_ones, .ref aX1_twos, .ref aX1_distances, .ref aX1_reached, .int (i32 f_swaps), .int (i32 f_there), .int (i32 f_size), .int (i32 f_mostShares), .int (i32 f_source), .int (i32 f_looked), .int (i32 f_ends)])), (aX1_rows, aL cJ 2001 f_rows), (aX1_ones, aL cJ 31 f_ones), (aX1_twos, aL cJ 31 f_twos)] (po_X1_neighbours cI cJ hX1 aX1_rows aX1_ones aX1_twos aX1_distances aX1_reached f_swaps f_there f_size f_mostShares f_source f_looked f_ends f_rows f_ones f_twos Q) := by
  refine ct_of (by decide +kernel) (Nat.le_of_ble_eq_true rfl) (fun X hl hDD hcI hcJ hzt hR hF hnm g => ?_)
  subst hl; subst hDD; subst hcI; subst hcJ; subst hzt
  show Wat X 0 0 0 [(0, .ref hX1), (1, .int (i32 l1))] [] [(hX1, .inr (1, [.ref aX1_rows, .ref aX1_ones, .ref aX1_twos, .ref aX1_distances, .ref aX1_reached, .int (i32 f_swaps), .int (i32 f_there), .int (i32 f_size), .int (i32 f_mostShares), .int (i32 f_source), .int (i32 f_looked), .int (i32 f_ends)])), (aX1_rows, aL X.cJ 2001 f_rows), (aX1_ones, aL X.cJ 31 f_ones), (aX1_twos, aL X.cJ 31 f_twos)]
  replace g : Gd X cX1_neighbours RX1 (some .int) 4 := g
  rw [wp_X1_neighbours] at h
  refine q_iconst g (0) dX1_neighbours_0 ?_
  refine q_istore_n (lv' := [(2, .int (i32 0)), (0, .ref hX1), (1, .int (i32 l1))]) g 2 2 rfl (by decide) rfl dX1_neighbours_1 ?_
  refine q_iconst g (0) dX1_neighbours_2 ?_
  refine q_istore_n (lv' := [(3, .int (i32 0)), (2, .int (i32 0)), (0, .ref hX1), (1, .int (i32 l1))]) g 3 3 rfl (by decide) rfl dX1_neighbours_3 ?_
  refine q_lv (lv' := [(0, .ref hX1), (1, .int (i32 l1)), (2, .int (i32 0)), (3, .int (i32 0))]) [2, 3, 1, 0] rfl ?_
  obtain ⟨n0, h⟩ := h
  exact s_X1_neighbours_4 g hR hX1 aX1_rows aX1_ones aX1_twos aX1_distances aX1_reached f_there f_source f_looked f_ends f_rows f_ones f_twos f_swaps f_size f_mostShares r_f_rows r_f_ones r_f_twos r_f_swaps r_f_size r_f_mostShares Q hF n0 l1 0 0 r_l1 (r32_lit _ (by decide)) (r32_lit _ (by decide)) h
theorem dX1_room_0 : decode cX1_room 0 = .ok (.aload_n 0, 1) := by decide +kernel
theorem dX1_room_1 : decode cX1_room 1 = .ok (.getfield 9, 3) := by decide +kernel
theorem dX1_room_4 : decode cX1_room 4 = .ok (.areturn, 1) := by decide +kernel
abbrev po_X1_room (cI cJ : ClassId) (hX1 : Nat) (aX1_rows : Nat) (aX1_ones : Nat) (aX1_twos : Nat) (aX1_distances : Nat) (aX1_reached : Nat) (f_swaps : Int) (f_there : Int) (f_size : Int) (f_mostShares : Int) (f_source : Int) (f_looked : Int) (f_ends : Int) (Q : Prop) : Option Value → va_W → Prop := fun rv w1 => rv = some (.ref aX1_rows) ∧ w1 = [(hX1, .inr (1, [.ref aX1_rows, .ref aX1_ones, .ref aX1_twos, .ref aX1_distances, .ref aX1_reached, .int (i32 f_swaps), .int (i32 f_there), .int (i32 f_size), .int (i32 f_mostShares), .int (i32 f_source), .int (i32 f_looked), .int (i32 f_ends)]))] ∧ Q
def wp_X1_room (Q : Prop) : Prop := Q
set_option maxHeartbeats 4000000 in
set_option maxRecDepth 100000 in
theorem c_X1_room (l : Launch) (D : va_G) (cI cJ : ClassId) (zt : Nat) (hX1 : Nat) (aX1_rows : Nat) (aX1_ones : Nat) (aX1_twos : Nat) (aX1_distances : Nat) (aX1_reached : Nat) (f_swaps : Int) (f_there : Int) (f_size : Int) (f_mostShares : Int) (f_source : Int) (f_looked : Int) (f_ends : Int) (Q : Prop) (h : wp_X1_room Q) : Ct l D cI cJ zt yX1_room cX1_room 1 (some (.array .long)) 1 0 0 [.ref hX1] [(hX1, .inr (1, [.ref aX1_rows, .ref aX1_ones, .ref aX1_twos, .ref aX1_distances, .ref aX1_reached, .int (i32 f_swaps), .int (i32 f_there), .int (i32 f_size), .int (i32 f_mostShares), .int (i32 f_source), .int (i32 f_looked), .int (i32 f_ends)]))] (po_X1_room cI cJ hX1 aX1_rows aX1_ones aX1_twos aX1_distances aX1_reached f_swaps f_there f_size f_mostShares f_source f_looked f_ends Q) := by
  refine ct_of (by decide +kernel) (Nat.le_of_ble_eq_true rfl) (fun X hl hDD hcI hcJ hzt hR hF hnm g => ?_)
  subst hl; subst hDD; subst hcI; subst hcJ; subst hzt
  show Wat X 0 0 0 [(0, .ref hX1)] [] [(hX1, .inr (1, [.ref aX1_rows, .ref aX1_ones, .ref aX1_twos, .ref aX1_distances, .ref aX1_reached, .int (i32 f_swaps), .int (i32 f_there), .int (i32 f_size), .int (i32 f_mostShares), .int (i32 f_source), .int (i32 f_looked), .int (i32 f_ends)]))]
  replace g : Gd X cX1_room RX1 (some (.array .long)) 1 := g
  rw [wp_X1_room] at h
  refine q_aload_n g 0 0 rfl dX1_room_0 ?_
  refine q_get (C := RX1) (T := TX1) (N := 12) g 9 inX1 0 0 rfl rfl (by decide) wF_X1_9 rfl dX1_room_1 ?_
  exact q_aret g hF ⟨rfl, rfl, h⟩ dX1_room_4
theorem dX1_settle_0 : decode cX1_settle 0 = .ok (.aload_n 0, 1) := by decide +kernel
theorem dX1_settle_1 : decode cX1_settle 1 = .ok (.iload_n 1, 1) := by decide +kernel
theorem dX1_settle_2 : decode cX1_settle 2 = .ok (.sipush 2000, 3) := by decide +kernel
theorem dX1_settle_5 : decode cX1_settle 5 = .ok (.if_icmp .gt 7, 3) := by decide +kernel
theorem dX1_settle_8 : decode cX1_settle 8 = .ok (.iconst 1, 1) := by decide +kernel
theorem dX1_settle_9 : decode cX1_settle 9 = .ok (.goto 4, 3) := by decide +kernel
theorem dX1_settle_12 : decode cX1_settle 12 = .ok (.iconst 0, 1) := by decide +kernel
theorem dX1_settle_13 : decode cX1_settle 13 = .ok (.putfield 41, 3) := by decide +kernel
theorem dX1_settle_16 : decode cX1_settle 16 = .ok (.aload_n 0, 1) := by decide +kernel
theorem dX1_settle_17 : decode cX1_settle 17 = .ok (.aload_n 0, 1) := by decide +kernel
theorem dX1_settle_18 : decode cX1_settle 18 = .ok (.getfield 41, 3) := by decide +kernel
theorem dX1_settle_21 : decode cX1_settle 21 = .ok (.ifCond .eq 7, 3) := by decide +kernel
theorem dX1_settle_24 : decode cX1_settle 24 = .ok (.iload_n 1, 1) := by decide +kernel
theorem dX1_settle_25 : decode cX1_settle 25 = .ok (.goto 4, 3) := by decide +kernel
theorem dX1_settle_28 : decode cX1_settle 28 = .ok (.iconst 0, 1) := by decide +kernel
theorem dX1_settle_29 : decode cX1_settle 29 = .ok (.putfield 45, 3) := by decide +kernel
theorem dX1_settle_32 : decode cX1_settle 32 = .ok (.aload_n 0, 1) := by decide +kernel
theorem dX1_settle_33 : decode cX1_settle 33 = .ok (.iload_n 2, 1) := by decide +kernel
theorem dX1_settle_34 : decode cX1_settle 34 = .ok (.putfield 48, 3) := by decide +kernel
theorem dX1_settle_37 : decode cX1_settle 37 = .ok (.aload_n 0, 1) := by decide +kernel
theorem dX1_settle_38 : decode cX1_settle 38 = .ok (.iconst (-1), 1) := by decide +kernel
theorem dX1_settle_39 : decode cX1_settle 39 = .ok (.putfield 28, 3) := by decide +kernel
theorem dX1_settle_42 : decode cX1_settle 42 = .ok (.aload_n 0, 1) := by decide +kernel
theorem dX1_settle_43 : decode cX1_settle 43 = .ok (.getfield 41, 3) := by decide +kernel
theorem dX1_settle_46 : decode cX1_settle 46 = .ok (.ifCond .eq 10, 3) := by decide +kernel
theorem dX1_settle_49 : decode cX1_settle 49 = .ok (.aload_n 0, 1) := by decide +kernel
theorem dX1_settle_50 : decode cX1_settle 50 = .ok (.getfield 45, 3) := by decide +kernel
theorem dX1_settle_53 : decode cX1_settle 53 = .ok (.goto 5, 3) := by decide +kernel
theorem dX1_settle_56 : decode cX1_settle 56 = .ok (.bipush (-5), 2) := by decide +kernel
theorem dX1_settle_58 : decode cX1_settle 58 = .ok (.ireturn, 1) := by decide +kernel
abbrev po_X1_settle (cI cJ : ClassId) (hX1 : Nat) (aX1_rows : Nat) (aX1_ones : Nat) (aX1_twos : Nat) (aX1_distances : Nat) (aX1_reached : Nat) (f_swaps : Int) (f_looked : Int) (f_ends : Int) (Q : Int → Int → Int → Int → Int → Prop) : Option Value → va_W → Prop := fun rv w1 => ∃ (r0 : Int) (f_there : Int) (f_size : Int) (f_mostShares : Int) (f_source : Int), rv = some (.int (i32 r0)) ∧ w1 = [(hX1, .inr (1, [.ref aX1_rows, .ref aX1_ones, .ref aX1_twos, .ref aX1_distances, .ref aX1_reached, .int (i32 f_swaps), .int (i32 f_there), .int (i32 f_size), .int (i32 f_mostShares), .int (i32 f_source), .int (i32 f_looked), .int (i32 f_ends)]))] ∧ r32 r0 ∧ r32 f_there ∧ r32 f_size ∧ r32 f_mostShares ∧ r32 f_source ∧ Q r0 f_there f_size f_mostShares f_source
def wp_X1_settle_58 (Q : Int → Int → Int → Int → Int → Prop) (f_there : Int) (f_size : Int) (f_mostShares : Int) (f_source : Int) (k0 : Int) : Prop := Q k0 f_there f_size f_mostShares f_source
set_option maxHeartbeats 4000000 in
set_option maxRecDepth 100000 in
theorem s_X1_settle_58 {X : Cx} (g : Gd X cX1_settle RX1 (some .int) 3) (hR : X.R = rmL 1 0 0) (hX1 : Nat) (aX1_rows : Nat) (aX1_ones : Nat) (aX1_twos : Nat) (aX1_distances : Nat) (aX1_reached : Nat) (f_swaps : Int) (f_looked : Int) (f_ends : Int) (Q : Int → Int → Int → Int → Int → Prop) (hF : FQ X 0 0 (po_X1_settle X.cI X.cJ hX1 aX1_rows aX1_ones aX1_twos aX1_distances aX1_reached f_swaps f_looked f_ends Q)) : ∀ (f_there : Int) (f_size : Int) (f_mostShares : Int) (f_source : Int) (k0 : Int), r32 f_there → r32 f_size → r32 f_mostShares → r32 f_source → r32 k0 → wp_X1_settle_58 Q f_there f_size f_mostShares f_source k0 → Wat X 0 0 58 [] [.int (i32 k0)] [(hX1, .inr (1, [.ref aX1_rows, .ref aX1_ones, .ref aX1_twos, .ref aX1_distances, .ref aX1_reached, .int (i32 f_swaps), .int (i32 f_there), .int (i32 f_size), .int (i32 f_mostShares), .int (i32 f_source), .int (i32 f_looked), .int (i32 f_ends)]))] := by
  intro f_there f_size f_mostShares f_source k0 r_f_there r_f_size r_f_mostShares r_f_source r_k0 h
  rw [wp_X1_settle_58] at h
  exact q_iret g hF ⟨k0, f_there, f_size, f_mostShares, f_source, rfl, rfl, r_k0, r_f_there, r_f_size, r_f_mostShares, r_f_source, h⟩ dX1_settle_58
def wp_X1_settle_29 (Q : Int → Int → Int → Int → Int → Prop) (f_there : Int) (f_size : Int) (f_mostShares : Int) (f_source : Int) (l2 : Int) (k1 : Int) : Prop := ((f_there = 0 → wp_X1_settle_58 Q f_there k1 l2 (-1) (-5)) ∧
  (¬ (f_there = 0) → wp_X1_settle_58 Q f_there k1 l2 (-1) k1))
set_option maxHeartbeats 4000000 in
set_option maxRecDepth 100000 in
theorem s_X1_settle_29 {X : Cx} (g : Gd X cX1_settle RX1 (some .int) 3) (hR : X.R = rmL 1 0 0) (hX1 : Nat) (aX1_rows : Nat) (aX1_ones : Nat) (aX1_twos : Nat) (aX1_distances : Nat) (aX1_reached : Nat) (f_swaps : Int) (f_looked : Int) (f_ends : Int) (Q : Int → Int → Int → Int → Int → Prop) (hF : FQ X 0 0 (po_X1_settle X.cI X.cJ hX1 aX1_rows aX1_ones aX1_twos aX1_distances aX1_reached f_swaps f_looked f_ends Q)) : ∀ (f_there : Int) (f_size : Int) (f_mostShares : Int) (f_source : Int) (l2 : Int) (k1 : Int), r32 f_there → r32 f_size → r32 f_mostShares → r32 f_source → r32 l2 → r32 k1 → wp_X1_settle_29 Q f_there f_size f_mostShares f_source l2 k1 → Wat X 0 0 29 [(0, .ref hX1), (2, .int (i32 l2))] [.int (i32 k1), .ref hX1] [(hX1, .inr (1, [.ref aX1_rows, .ref aX1_ones, .ref aX1_twos, .ref aX1_distances, .ref aX1_reached, .int (i32 f_swaps), .int (i32 f_there), .int (i32 f_size), .int (i32 f_mostShares), .int (i32 f_source), .int (i32 f_looked), .int (i32 f_ends)]))] := by
  intro f_there f_size f_mostShares f_source l2 k1 r_f_there r_f_size r_f_mostShares r_f_source r_l2 r_k1 h
  rw [wp_X1_settle_29] at h
  refine q_put (C := RX1) (T := TX1) (N := 12) (ty := .int) (ws' := [(hX1, .inr (1, [.ref aX1_rows, .ref aX1_ones, .ref aX1_twos, .ref aX1_distances, .ref aX1_reached, .int (i32 f_swaps), .int (i32 f_there), .int (i32 k1), .int (i32 f_mostShares), .int (i32 f_source), .int (i32 f_looked), .int (i32 f_ends)]))]) g 45 inX1 tyX1_ok nmX1 0 7 rfl rfl (by decide) wF_X1_45 rfl rfl rfl rfl (Nat.le_of_ble_eq_true rfl) rfl dX1_settle_29 ?_
  refine q_aload_n g 0 0 rfl dX1_settle_32 ?_
  refine q_iload_n g 2 1 rfl dX1_settle_33 ?_
  refine q_put (C := RX1) (T := TX1) (N := 12) (ty := .int) (ws' := [(hX1, .inr (1, [.ref aX1_rows, .ref aX1_ones, .ref aX1_twos, .ref aX1_distances, .ref aX1_reached, .int (i32 f_swaps), .int (i32 f_there), .int (i32 k1), .int (i32 l2), .int (i32 f_source), .int (i32 f_looked), .int (i32 f_ends)]))]) g 48 inX1 tyX1_ok nmX1 0 8 rfl rfl (by decide) wF_X1_48 rfl rfl rfl rfl (Nat.le_of_ble_eq_true rfl) rfl dX1_settle_34 ?_
  refine q_aload_n g 0 0 rfl dX1_settle_37 ?_
  refine q_iconst g (-1) dX1_settle_38 ?_
  refine q_put (C := RX1) (T := TX1) (N := 12) (ty := .int) (ws' := [(hX1, .inr (1, [.ref aX1_rows, .ref aX1_ones, .ref aX1_twos, .ref aX1_distances, .ref aX1_reached, .int (i32 f_swaps), .int (i32 f_there), .int (i32 k1), .int (i32 l2), .int (i32 (-1)), .int (i32 f_looked), .int (i32 f_ends)]))]) g 28 inX1 tyX1_ok nmX1 0 9 rfl rfl (by decide) wF_X1_28 rfl rfl rfl rfl (Nat.le_of_ble_eq_true rfl) rfl dX1_settle_39 ?_
  refine q_aload_n g 0 0 rfl dX1_settle_42 ?_
  refine q_get (C := RX1) (T := TX1) (N := 12) g 41 inX1 0 6 rfl rfl (by decide) wF_X1_41 rfl dX1_settle_43 ?_
  refine q_if_eq g (10) 56 r_f_there (by decide) dX1_settle_46 (fun b46 => ?_) (fun b46 => ?_)
  · replace h := h.1 b46
    refine q_bipush g (-5) (by decide) (by decide) dX1_settle_56 ?_
    refine q_lv (lv' := []) [] rfl ?_
    exact s_X1_settle_58 g hR hX1 aX1_rows aX1_ones aX1_twos aX1_distances aX1_reached f_swaps f_looked f_ends Q hF f_there k1 l2 (-1) (-5) r_f_there r_k1 r_l2 (r32_lit _ (by decide)) (r32_lit _ (by decide)) h
  replace h := h.2 b46
  refine q_aload_n g 0 0 rfl dX1_settle_49 ?_
  refine q_get (C := RX1) (T := TX1) (N := 12) g 45 inX1 0 7 rfl rfl (by decide) wF_X1_45 rfl dX1_settle_50 ?_
  refine q_goto g (5) 58 (by decide) dX1_settle_53 ?_
  refine q_lv (lv' := []) [] rfl ?_
  exact s_X1_settle_58 g hR hX1 aX1_rows aX1_ones aX1_twos aX1_distances aX1_reached f_swaps f_looked f_ends Q hF f_there k1 l2 (-1) k1 r_f_there r_k1 r_l2 (r32_lit _ (by decide)) r_k1 h
def wp_X1_settle_13 (Q : Int → Int → Int → Int → Int → Prop) (f_there : Int) (f_size : Int) (f_mostShares : Int) (f_source : Int) (l1 : Int) (l2 : Int) (k1 : Int) : Prop := ((k1 = 0 ∨ k1 = 1) ∧ ((k1 = 0 → wp_X1_settle_29 Q k1 f_size f_mostShares f_source l2 0) ∧
  (¬ (k1 = 0) → wp_X1_settle_29 Q k1 f_size f_mostShares f_source l2 l1)))
set_option maxHeartbeats 4000000 in
set_option maxRecDepth 100000 in
theorem s_X1_settle_13 {X : Cx} (g : Gd X cX1_settle RX1 (some .int) 3) (hR : X.R = rmL 1 0 0) (hX1 : Nat) (aX1_rows : Nat) (aX1_ones : Nat) (aX1_twos : Nat) (aX1_distances : Nat) (aX1_reached : Nat) (f_swaps : Int) (f_looked : Int) (f_ends : Int) (Q : Int → Int → Int → Int → Int → Prop) (hF : FQ X 0 0 (po_X1_settle X.cI X.cJ hX1 aX1_rows aX1_ones aX1_twos aX1_distances aX1_reached f_swaps f_looked f_ends Q)) : ∀ (f_there : Int) (f_size : Int) (f_mostShares : Int) (f_source : Int) (l1 : Int) (l2 : Int) (k1 : Int), r32 f_there → r32 f_size → r32 f_mostShares → r32 f_source → r32 l1 → r32 l2 → r32 k1 → wp_X1_settle_13 Q f_there f_size f_mostShares f_source l1 l2 k1 → Wat X 0 0 13 [(0, .ref hX1), (1, .int (i32 l1)), (2, .int (i32 l2))] [.int (i32 k1), .ref hX1] [(hX1, .inr (1, [.ref aX1_rows, .ref aX1_ones, .ref aX1_twos, .ref aX1_distances, .ref aX1_reached, .int (i32 f_swaps), .int (i32 f_there), .int (i32 f_size), .int (i32 f_mostShares), .int (i32 f_source), .int (i32 f_looked), .int (i32 f_ends)]))] := by
  intro f_there f_size f_mostShares f_source l1 l2 k1 r_f_there r_f_size r_f_mostShares r_f_source r_l1 r_l2 r_k1 h
  rw [wp_X1_settle_13] at h
  obtain ⟨z13, h⟩ := h
  refine q_put (C := RX1) (T := TX1) (N := 12) (ty := .boolean) (ws' := [(hX1, .inr (1, [.ref aX1_rows, .ref aX1_ones, .ref aX1_twos, .ref aX1_distances, .ref aX1_reached, .int (i32 f_swaps), .int (i32 k1), .int (i32 f_size), .int (i32 f_mostShares), .int (i32 f_source), .int (i32 f_looked), .int (i32 f_ends)]))]) g 41 inX1 tyX1_ok nmX1 0 6 rfl rfl (by decide) wF_X1_41 rfl rfl (zb_n z13) (zb_f z13) (Nat.le_of_ble_eq_true rfl) rfl dX1_settle_13 ?_
  refine q_aload_n g 0 0 rfl dX1_settle_16 ?_
  refine q_aload_n g 0 0 rfl dX1_settle_17 ?_
  refine q_get (C := RX1) (T := TX1) (N := 12) g 41 inX1 0 6 rfl rfl (by decide) wF_X1_41 rfl dX1_settle_18 ?_
  refine q_if_eq g (7) 28 r_k1 (by decide) dX1_settle_21 (fun b21 => ?_) (fun b21 => ?_)
  · replace h := h.1 b21
    refine q_iconst g (0) dX1_settle_28 ?_
    refine q_lv (lv' := [(0, .ref hX1), (2, .int (i32 l2))]) [0, 2] rfl ?_
    exact s_X1_settle_29 g hR hX1 aX1_rows aX1_ones aX1_twos aX1_distances aX1_reached f_swaps f_looked f_ends Q hF k1 f_size f_mostShares f_source l2 0 r_k1 r_f_size r_f_mostShares r_f_source r_l2 (r32_lit _ (by decide)) h
  replace h := h.2 b21
  refine q_iload_n g 1 1 rfl dX1_settle_24 ?_
  refine q_goto g (4) 29 (by decide) dX1_settle_25 ?_
  refine q_lv (lv' := [(0, .ref hX1), (2, .int (i32 l2))]) [0, 2] rfl ?_
  exact s_X1_settle_29 g hR hX1 aX1_rows aX1_ones aX1_twos aX1_distances aX1_reached f_swaps f_looked f_ends Q hF k1 f_size f_mostShares f_source l2 l1 r_k1 r_f_size r_f_mostShares r_f_source r_l2 r_l1 h
def wp_X1_settle (Q : Int → Int → Int → Int → Int → Prop) (f_there : Int) (f_size : Int) (f_mostShares : Int) (f_source : Int) (l1 : Int) (l2 : Int) : Prop := ((2000 < l1 → wp_X1_settle_13 Q f_there f_size f_mostShares f_source l1 l2 0) ∧
  (¬ (2000 < l1) → wp_X1_settle_13 Q f_there f_size f_mostShares f_source l1 l2 1))
set_option maxHeartbeats 4000000 in
set_option maxRecDepth 100000 in
theorem c_X1_settle (l : Launch) (D : va_G) (cI cJ : ClassId) (zt : Nat) (hX1 : Nat) (aX1_rows : Nat) (aX1_ones : Nat) (aX1_twos : Nat) (aX1_distances : Nat) (aX1_reached : Nat) (f_swaps : Int) (f_there : Int) (f_size : Int) (f_mostShares : Int) (f_source : Int) (f_looked : Int) (f_ends : Int) (l1 : Int) (l2 : Int) (Q : Int → Int → Int → Int → Int → Prop) (r_f_there : r32 f_there) (r_f_size : r32 f_size) (r_f_mostShares : r32 f_mostShares) (r_f_source : r32 f_source) (r_l1 : r32 l1) (r_l2 : r32 l2) (h : wp_X1_settle Q f_there f_size f_mostShares f_source l1 l2) : Ct l D cI cJ zt yX1_settle cX1_settle 3 (some .int) 1 0 0 [.ref hX1, .int (i32 l1), .int (i32 l2)] [(hX1, .inr (1, [.ref aX1_rows, .ref aX1_ones, .ref aX1_twos, .ref aX1_distances, .ref aX1_reached, .int (i32 f_swaps), .int (i32 f_there), .int (i32 f_size), .int (i32 f_mostShares), .int (i32 f_source), .int (i32 f_looked), .int (i32 f_ends)]))] (po_X1_settle cI cJ hX1 aX1_rows aX1_ones aX1_twos aX1_distances aX1_reached f_swaps f_looked f_ends Q) := by
  refine ct_of (by decide +kernel) (Nat.le_of_ble_eq_true rfl) (fun X hl hDD hcI hcJ hzt hR hF hnm g => ?_)
  subst hl; subst hDD; subst hcI; subst hcJ; subst hzt
  show Wat X 0 0 0 [(0, .ref hX1), (1, .int (i32 l1)), (2, .int (i32 l2))] [] [(hX1, .inr (1, [.ref aX1_rows, .ref aX1_ones, .ref aX1_twos, .ref aX1_distances, .ref aX1_reached, .int (i32 f_swaps), .int (i32 f_there), .int (i32 f_size), .int (i32 f_mostShares), .int (i32 f_source), .int (i32 f_looked), .int (i32 f_ends)]))]
  replace g : Gd X cX1_settle RX1 (some .int) 3 := g
  rw [wp_X1_settle] at h
  refine q_aload_n g 0 0 rfl dX1_settle_0 ?_
  refine q_iload_n g 1 1 rfl dX1_settle_1 ?_
  refine q_sipush g (2000) (by decide) (by decide) dX1_settle_2 ?_
  refine q_icmp_gt g (7) 12 r_l1 (r32_lit _ (by decide)) (by decide) dX1_settle_5 (fun b5 => ?_) (fun b5 => ?_)
  · replace h := h.1 b5
    refine q_iconst g (0) dX1_settle_12 ?_
    exact s_X1_settle_13 g hR hX1 aX1_rows aX1_ones aX1_twos aX1_distances aX1_reached f_swaps f_looked f_ends Q hF f_there f_size f_mostShares f_source l1 l2 0 r_f_there r_f_size r_f_mostShares r_f_source r_l1 r_l2 (r32_lit _ (by decide)) h
  replace h := h.2 b5
  refine q_iconst g (1) dX1_settle_8 ?_
  refine q_goto g (4) 13 (by decide) dX1_settle_9 ?_
  exact s_X1_settle_13 g hR hX1 aX1_rows aX1_ones aX1_twos aX1_distances aX1_reached f_swaps f_looked f_ends Q hF f_there f_size f_mostShares f_source l1 l2 1 r_f_there r_f_size r_f_mostShares r_f_source r_l1 r_l2 (r32_lit _ (by decide)) h
theorem dX1_size_0 : decode cX1_size 0 = .ok (.aload_n 0, 1) := by decide +kernel
theorem dX1_size_1 : decode cX1_size 1 = .ok (.getfield 45, 3) := by decide +kernel
theorem dX1_size_4 : decode cX1_size 4 = .ok (.ireturn, 1) := by decide +kernel
abbrev po_X1_size (cI cJ : ClassId) (hX1 : Nat) (aX1_rows : Nat) (aX1_ones : Nat) (aX1_twos : Nat) (aX1_distances : Nat) (aX1_reached : Nat) (f_swaps : Int) (f_there : Int) (f_size : Int) (f_mostShares : Int) (f_source : Int) (f_looked : Int) (f_ends : Int) (Q : Int → Prop) : Option Value → va_W → Prop := fun rv w1 => ∃ (r0 : Int), rv = some (.int (i32 r0)) ∧ w1 = [(hX1, .inr (1, [.ref aX1_rows, .ref aX1_ones, .ref aX1_twos, .ref aX1_distances, .ref aX1_reached, .int (i32 f_swaps), .int (i32 f_there), .int (i32 f_size), .int (i32 f_mostShares), .int (i32 f_source), .int (i32 f_looked), .int (i32 f_ends)]))] ∧ r32 r0 ∧ Q r0
def wp_X1_size (Q : Int → Prop) (f_size : Int) : Prop := Q f_size
set_option maxHeartbeats 4000000 in
set_option maxRecDepth 100000 in
theorem c_X1_size (l : Launch) (D : va_G) (cI cJ : ClassId) (zt : Nat) (hX1 : Nat) (aX1_rows : Nat) (aX1_ones : Nat) (aX1_twos : Nat) (aX1_distances : Nat) (aX1_reached : Nat) (f_swaps : Int) (f_there : Int) (f_size : Int) (f_mostShares : Int) (f_source : Int) (f_looked : Int) (f_ends : Int) (Q : Int → Prop) (r_f_size : r32 f_size) (h : wp_X1_size Q f_size) : Ct l D cI cJ zt yX1_size cX1_size 1 (some .int) 1 0 0 [.ref hX1] [(hX1, .inr (1, [.ref aX1_rows, .ref aX1_ones, .ref aX1_twos, .ref aX1_distances, .ref aX1_reached, .int (i32 f_swaps), .int (i32 f_there), .int (i32 f_size), .int (i32 f_mostShares), .int (i32 f_source), .int (i32 f_looked), .int (i32 f_ends)]))] (po_X1_size cI cJ hX1 aX1_rows aX1_ones aX1_twos aX1_distances aX1_reached f_swaps f_there f_size f_mostShares f_source f_looked f_ends Q) := by
  refine ct_of (by decide +kernel) (Nat.le_of_ble_eq_true rfl) (fun X hl hDD hcI hcJ hzt hR hF hnm g => ?_)
  subst hl; subst hDD; subst hcI; subst hcJ; subst hzt
  show Wat X 0 0 0 [(0, .ref hX1)] [] [(hX1, .inr (1, [.ref aX1_rows, .ref aX1_ones, .ref aX1_twos, .ref aX1_distances, .ref aX1_reached, .int (i32 f_swaps), .int (i32 f_there), .int (i32 f_size), .int (i32 f_mostShares), .int (i32 f_source), .int (i32 f_looked), .int (i32 f_ends)]))]
  replace g : Gd X cX1_size RX1 (some .int) 1 := g
  rw [wp_X1_size] at h
  refine q_aload_n g 0 0 rfl dX1_size_0 ?_
  refine q_get (C := RX1) (T := TX1) (N := 12) g 45 inX1 0 7 rfl rfl (by decide) wF_X1_45 rfl dX1_size_1 ?_
  exact q_iret g hF ⟨f_size, rfl, rfl, r_f_size, h⟩ dX1_size_4
