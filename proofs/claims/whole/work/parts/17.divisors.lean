theorem wC_J7_fill_d0a16 : Cond.code yJ7_fill_d0a16 cJ7_fill_d0a16 5 none ∈ TT := List.mem_filter.mpr ⟨List.mem_append_right _ (List.mem_of_getElem? (i := 575) (by decide +kernel)), rfl⟩
theorem wC_X0_addDivisor : Cond.code yX0_addDivisor cX0_addDivisor 3 none ∈ TT := List.mem_filter.mpr ⟨List.mem_append_right _ (List.mem_of_getElem? (i := 568) (by decide +kernel)), rfl⟩
theorem wC_X0_addShifted : Cond.code yX0_addShifted cX0_addShifted 8 none ∈ TT := List.mem_filter.mpr ⟨List.mem_append_right _ (List.mem_of_getElem? (i := 579) (by decide +kernel)), rfl⟩
theorem wC_X0_canMake : Cond.code yX0_canMake cX0_canMake 5 (some .boolean) ∈ TT := List.mem_filter.mpr ⟨List.mem_append_right _ (List.mem_of_getElem? (i := 572) (by decide +kernel)), rfl⟩
theorem wC_X0_choose : Cond.code yX0_choose cX0_choose 6 none ∈ TT := List.mem_filter.mpr ⟨List.mem_append_right _ (List.mem_of_getElem? (i := 583) (by decide +kernel)), rfl⟩
theorem wC_X0_findFactor : Cond.code yX0_findFactor cX0_findFactor 4 (some .int) ∈ TT := List.mem_filter.mpr ⟨List.mem_append_right _ (List.mem_of_getElem? (i := 560) (by decide +kernel)), rfl⟩
theorem wC_X0_listDivisors : Cond.code yX0_listDivisors cX0_listDivisors 5 none ∈ TT := List.mem_filter.mpr ⟨List.mem_append_right _ (List.mem_of_getElem? (i := 564) (by decide +kernel)), rfl⟩
theorem wC_X0_readChosen : Cond.code yX0_readChosen cX0_readChosen 4 none ∈ TT := List.mem_filter.mpr ⟨List.mem_append_right _ (List.mem_of_getElem? (i := 588) (by decide +kernel)), rfl⟩
theorem wF_X0_11 : Cond.fieldLink RX0 11 (TX0 0).1 (TX0 0).2.1 (TX0 0).2.2.1 ∈ TT := List.mem_filter.mpr ⟨List.mem_append_right _ (List.mem_of_getElem? (i := 153) (by decide +kernel)), rfl⟩
theorem wF_X0_15 : Cond.fieldLink RX0 15 (TX0 1).1 (TX0 1).2.1 (TX0 1).2.2.1 ∈ TT := List.mem_filter.mpr ⟨List.mem_append_right _ (List.mem_of_getElem? (i := 154) (by decide +kernel)), rfl⟩
theorem wF_X0_19 : Cond.fieldLink RX0 19 (TX0 2).1 (TX0 2).2.1 (TX0 2).2.2.1 ∈ TT := List.mem_filter.mpr ⟨List.mem_append_right _ (List.mem_of_getElem? (i := 155) (by decide +kernel)), rfl⟩
theorem wF_X0_22 : Cond.fieldLink RX0 22 (TX0 3).1 (TX0 3).2.1 (TX0 3).2.2.1 ∈ TT := List.mem_filter.mpr ⟨List.mem_append_right _ (List.mem_of_getElem? (i := 156) (by decide +kernel)), rfl⟩
theorem wF_X0_25 : Cond.fieldLink RX0 25 (TX0 4).1 (TX0 4).2.1 (TX0 4).2.2.1 ∈ TT := List.mem_filter.mpr ⟨List.mem_append_right _ (List.mem_of_getElem? (i := 157) (by decide +kernel)), rfl⟩
theorem wF_X0_28 : Cond.fieldLink RX0 28 (TX0 7).1 (TX0 7).2.1 (TX0 7).2.2.1 ∈ TT := List.mem_filter.mpr ⟨List.mem_append_right _ (List.mem_of_getElem? (i := 160) (by decide +kernel)), rfl⟩
theorem wF_X0_32 : Cond.fieldLink RX0 32 (TX0 8).1 (TX0 8).2.1 (TX0 8).2.2.1 ∈ TT := List.mem_filter.mpr ⟨List.mem_append_right _ (List.mem_of_getElem? (i := 161) (by decide +kernel)), rfl⟩
theorem wF_X0_35 : Cond.fieldLink RX0 35 (TX0 6).1 (TX0 6).2.1 (TX0 6).2.2.1 ∈ TT := List.mem_filter.mpr ⟨List.mem_append_right _ (List.mem_of_getElem? (i := 159) (by decide +kernel)), rfl⟩
theorem wF_X0_42 : Cond.fieldLink RX0 42 (TX0 9).1 (TX0 9).2.1 (TX0 9).2.2.1 ∈ TT := List.mem_filter.mpr ⟨List.mem_append_right _ (List.mem_of_getElem? (i := 162) (by decide +kernel)), rfl⟩
theorem wF_X0_57 : Cond.fieldLink RX0 57 (TX0 5).1 (TX0 5).2.1 (TX0 5).2.2.1 ∈ TT := List.mem_filter.mpr ⟨List.mem_append_right _ (List.mem_of_getElem? (i := 158) (by decide +kernel)), rfl⟩
theorem wI_X0_addDivisor : Cond.instanceMethod yX0_addDivisor ∈ TT := List.mem_filter.mpr ⟨List.mem_append_right _ (List.mem_of_getElem? (i := 567) (by decide +kernel)), rfl⟩
theorem wI_X0_addShifted : Cond.instanceMethod yX0_addShifted ∈ TT := List.mem_filter.mpr ⟨List.mem_append_right _ (List.mem_of_getElem? (i := 578) (by decide +kernel)), rfl⟩
theorem wI_X0_canMake : Cond.instanceMethod yX0_canMake ∈ TT := List.mem_filter.mpr ⟨List.mem_append_right _ (List.mem_of_getElem? (i := 571) (by decide +kernel)), rfl⟩
theorem wI_X0_choose : Cond.instanceMethod yX0_choose ∈ TT := List.mem_filter.mpr ⟨List.mem_append_right _ (List.mem_of_getElem? (i := 582) (by decide +kernel)), rfl⟩
theorem wI_X0_findFactor : Cond.instanceMethod yX0_findFactor ∈ TT := List.mem_filter.mpr ⟨List.mem_append_right _ (List.mem_of_getElem? (i := 559) (by decide +kernel)), rfl⟩
theorem wI_X0_listDivisors : Cond.instanceMethod yX0_listDivisors ∈ TT := List.mem_filter.mpr ⟨List.mem_append_right _ (List.mem_of_getElem? (i := 563) (by decide +kernel)), rfl⟩
theorem wI_X0_readChosen : Cond.instanceMethod yX0_readChosen ∈ TT := List.mem_filter.mpr ⟨List.mem_append_right _ (List.mem_of_getElem? (i := 587) (by decide +kernel)), rfl⟩
theorem wM_X0_38 : Cond.methodLink RX0 38 yX0_findFactor ∈ TT := List.mem_filter.mpr ⟨List.mem_append_right _ (List.mem_of_getElem? (i := 557) (by decide +kernel)), rfl⟩
theorem wM_X0_45 : Cond.methodLink RX0 45 yX0_listDivisors ∈ TT := List.mem_filter.mpr ⟨List.mem_append_right _ (List.mem_of_getElem? (i := 561) (by decide +kernel)), rfl⟩
theorem wM_X0_49 : Cond.methodLink RX0 49 yX0_canMake ∈ TT := List.mem_filter.mpr ⟨List.mem_append_right _ (List.mem_of_getElem? (i := 569) (by decide +kernel)), rfl⟩
theorem wM_X0_53 : Cond.methodLink RX0 53 yX0_choose ∈ TT := List.mem_filter.mpr ⟨List.mem_append_right _ (List.mem_of_getElem? (i := 580) (by decide +kernel)), rfl⟩
theorem wM_X0_60 : Cond.methodLink RX0 60 yX0_addDivisor ∈ TT := List.mem_filter.mpr ⟨List.mem_append_right _ (List.mem_of_getElem? (i := 565) (by decide +kernel)), rfl⟩
theorem wM_X0_63 : Cond.methodLink RX0 63 yJ7_fill_d0a16 ∈ TT := List.mem_filter.mpr ⟨List.mem_append_right _ (List.mem_of_getElem? (i := 573) (by decide +kernel)), rfl⟩
theorem wM_X0_69 : Cond.methodLink RX0 69 yX0_addShifted ∈ TT := List.mem_filter.mpr ⟨List.mem_append_right _ (List.mem_of_getElem? (i := 576) (by decide +kernel)), rfl⟩
theorem wM_X0_72 : Cond.methodLink RX0 72 yJ7_fill_53178 ∈ TT := List.mem_filter.mpr ⟨List.mem_append_right _ (List.mem_of_getElem? (i := 584) (by decide +kernel)), rfl⟩
theorem wM_X0_75 : Cond.methodLink RX0 75 yX0_readChosen ∈ TT := List.mem_filter.mpr ⟨List.mem_append_right _ (List.mem_of_getElem? (i := 585) (by decide +kernel)), rfl⟩
theorem wS_X0_addDivisor : Cond.selects yX0_addDivisor.cls yX0_addDivisor yX0_addDivisor ∈ TT := List.mem_filter.mpr ⟨List.mem_append_left _ (List.mem_of_getElem? (i := 32) (by decide +kernel)), rfl⟩
theorem wS_X0_addShifted : Cond.selects yX0_addShifted.cls yX0_addShifted yX0_addShifted ∈ TT := List.mem_filter.mpr ⟨List.mem_append_left _ (List.mem_of_getElem? (i := 34) (by decide +kernel)), rfl⟩
theorem wS_X0_canMake : Cond.selects yX0_canMake.cls yX0_canMake yX0_canMake ∈ TT := List.mem_filter.mpr ⟨List.mem_append_left _ (List.mem_of_getElem? (i := 33) (by decide +kernel)), rfl⟩
theorem wS_X0_choose : Cond.selects yX0_choose.cls yX0_choose yX0_choose ∈ TT := List.mem_filter.mpr ⟨List.mem_append_left _ (List.mem_of_getElem? (i := 35) (by decide +kernel)), rfl⟩
theorem wS_X0_findFactor : Cond.selects yX0_findFactor.cls yX0_findFactor yX0_findFactor ∈ TT := List.mem_filter.mpr ⟨List.mem_append_left _ (List.mem_of_getElem? (i := 30) (by decide +kernel)), rfl⟩
theorem wS_X0_listDivisors : Cond.selects yX0_listDivisors.cls yX0_listDivisors yX0_listDivisors ∈ TT := List.mem_filter.mpr ⟨List.mem_append_left _ (List.mem_of_getElem? (i := 31) (by decide +kernel)), rfl⟩
theorem wS_X0_readChosen : Cond.selects yX0_readChosen.cls yX0_readChosen yX0_readChosen ∈ TT := List.mem_filter.mpr ⟨List.mem_append_left _ (List.mem_of_getElem? (i := 36) (by decide +kernel)), rfl⟩
theorem wT_J7_fill_d0a16 : Cond.static yJ7_fill_d0a16 ∈ TT := List.mem_filter.mpr ⟨List.mem_append_right _ (List.mem_of_getElem? (i := 574) (by decide +kernel)), rfl⟩
theorem wZ_X0 : Cond.initialized RX0 ∈ TT := List.mem_filter.mpr ⟨List.mem_append_right _ (List.mem_of_getElem? (i := 7) (by decide +kernel)), rfl⟩
theorem dX0_addDivisor_0 : decode cX0_addDivisor 0 = .ok (.iload_n 1, 1) := by decide +kernel
theorem dX0_addDivisor_1 : decode cX0_addDivisor 1 = .ok (.iload_n 2, 1) := by decide +kernel
theorem dX0_addDivisor_2 : decode cX0_addDivisor 2 = .ok (.if_icmp .gt 35, 3) := by decide +kernel
theorem dX0_addDivisor_5 : decode cX0_addDivisor 5 = .ok (.aload_n 0, 1) := by decide +kernel
theorem dX0_addDivisor_6 : decode cX0_addDivisor 6 = .ok (.getfield 57, 3) := by decide +kernel
theorem dX0_addDivisor_9 : decode cX0_addDivisor 9 = .ok (.aload_n 0, 1) := by decide +kernel
theorem dX0_addDivisor_10 : decode cX0_addDivisor 10 = .ok (.getfield 11, 3) := by decide +kernel
theorem dX0_addDivisor_13 : decode cX0_addDivisor 13 = .ok (.arraylength, 1) := by decide +kernel
theorem dX0_addDivisor_14 : decode cX0_addDivisor 14 = .ok (.if_icmp .ge 23, 3) := by decide +kernel
theorem dX0_addDivisor_17 : decode cX0_addDivisor 17 = .ok (.aload_n 0, 1) := by decide +kernel
theorem dX0_addDivisor_18 : decode cX0_addDivisor 18 = .ok (.getfield 11, 3) := by decide +kernel
theorem dX0_addDivisor_21 : decode cX0_addDivisor 21 = .ok (.aload_n 0, 1) := by decide +kernel
theorem dX0_addDivisor_22 : decode cX0_addDivisor 22 = .ok (.getfield 57, 3) := by decide +kernel
theorem dX0_addDivisor_25 : decode cX0_addDivisor 25 = .ok (.iload_n 1, 1) := by decide +kernel
theorem dX0_addDivisor_26 : decode cX0_addDivisor 26 = .ok (.iastore, 1) := by decide +kernel
theorem dX0_addDivisor_27 : decode cX0_addDivisor 27 = .ok (.aload_n 0, 1) := by decide +kernel
theorem dX0_addDivisor_28 : decode cX0_addDivisor 28 = .ok (.dup, 1) := by decide +kernel
theorem dX0_addDivisor_29 : decode cX0_addDivisor 29 = .ok (.getfield 57, 3) := by decide +kernel
theorem dX0_addDivisor_32 : decode cX0_addDivisor 32 = .ok (.iconst 1, 1) := by decide +kernel
theorem dX0_addDivisor_33 : decode cX0_addDivisor 33 = .ok (.iadd, 1) := by decide +kernel
theorem dX0_addDivisor_34 : decode cX0_addDivisor 34 = .ok (.putfield 57, 3) := by decide +kernel
theorem dX0_addDivisor_37 : decode cX0_addDivisor 37 = .ok (.return_, 1) := by decide +kernel
abbrev po_X0_addDivisor (cI cJ : ClassId) (hX0 : Nat) (aX0_divisors : Nat) (aX0_reachable : Nat) (aX0_fewest : Nat) (aX0_takes : Nat) (aX0_chosen : Nat) (d_size : Int) (d_askedP : Int) (d_askedQ : Int) (d_factor : Int) (Q : (Int → Int) → Int → Prop) : Option Value → va_W → Prop := fun rv w1 => ∃ (d_divisors : Int → Int) (d_divisorsSize : Int), rv = none ∧ w1 = [(hX0, .inr (0, [.ref aX0_divisors, .ref aX0_reachable, .ref aX0_fewest, .ref aX0_takes, .ref aX0_chosen, .int (i32 d_divisorsSize), .int (i32 d_size), .int (i32 d_askedP), .int (i32 d_askedQ), .int (i32 d_factor)])), (aX0_divisors, aI cI 48 d_divisors)] ∧ rr32 d_divisors ∧ r32 d_divisorsSize ∧ Q d_divisors d_divisorsSize
def wp_X0_addDivisor_37 (Q : (Int → Int) → Int → Prop) (d_divisors : Int → Int) (d_divisorsSize : Int) : Prop := Q d_divisors d_divisorsSize
set_option maxHeartbeats 4000000 in
set_option maxRecDepth 100000 in
theorem s_X0_addDivisor_37 {X : Cx} (g : Gd X cX0_addDivisor RX0 none 3) (hR : X.R = rmL 1 0 0) (hX0 : Nat) (aX0_divisors : Nat) (aX0_reachable : Nat) (aX0_fewest : Nat) (aX0_takes : Nat) (aX0_chosen : Nat) (d_size : Int) (d_askedP : Int) (d_askedQ : Int) (d_factor : Int) (Q : (Int → Int) → Int → Prop) (hF : FQ X 0 0 (po_X0_addDivisor X.cI X.cJ hX0 aX0_divisors aX0_reachable aX0_fewest aX0_takes aX0_chosen d_size d_askedP d_askedQ d_factor Q)) : ∀ (d_divisors : Int → Int) (d_divisorsSize : Int), rr32 d_divisors → r32 d_divisorsSize → wp_X0_addDivisor_37 Q d_divisors d_divisorsSize → Wat X 0 0 37 [] [] [(hX0, .inr (0, [.ref aX0_divisors, .ref aX0_reachable, .ref aX0_fewest, .ref aX0_takes, .ref aX0_chosen, .int (i32 d_divisorsSize), .int (i32 d_size), .int (i32 d_askedP), .int (i32 d_askedQ), .int (i32 d_factor)])), (aX0_divisors, aI X.cI 48 d_divisors)] := by
  intro d_divisors d_divisorsSize r_d_divisors r_d_divisorsSize h
  rw [wp_X0_addDivisor_37] at h
  exact q_vret g hF ⟨d_divisors, d_divisorsSize, rfl, rfl, r_d_divisors, r_d_divisorsSize, h⟩ dX0_addDivisor_37
def wp_X0_addDivisor (Q : (Int → Int) → Int → Prop) (d_divisors : Int → Int) (d_divisorsSize : Int) (l1 : Int) (l2 : Int) : Prop := ((l2 < l1 → wp_X0_addDivisor_37 Q d_divisors d_divisorsSize) ∧
  (¬ (l2 < l1) → ((48 ≤ d_divisorsSize → wp_X0_addDivisor_37 Q d_divisors d_divisorsSize) ∧
  (¬ (48 ≤ d_divisorsSize) → (0 ≤ d_divisorsSize ∧ d_divisorsSize < 48 ∧ r32 (d_divisorsSize + 1) ∧ ∀ x34 : Int, x34 = (d_divisorsSize + 1) → wp_X0_addDivisor_37 Q (ups d_divisors d_divisorsSize l1) x34)))))
set_option maxHeartbeats 4000000 in
set_option maxRecDepth 100000 in
theorem c_X0_addDivisor (l : Launch) (D : va_G) (cI cJ : ClassId) (zt : Nat) (hX0 : Nat) (aX0_divisors : Nat) (aX0_reachable : Nat) (aX0_fewest : Nat) (aX0_takes : Nat) (aX0_chosen : Nat) (d_divisorsSize : Int) (d_size : Int) (d_askedP : Int) (d_askedQ : Int) (d_factor : Int) (d_divisors : Int → Int) (l1 : Int) (l2 : Int) (Q : (Int → Int) → Int → Prop) (r_d_divisors : rr32 d_divisors) (r_d_divisorsSize : r32 d_divisorsSize) (r_l1 : r32 l1) (r_l2 : r32 l2) (h : wp_X0_addDivisor Q d_divisors d_divisorsSize l1 l2) : Ct l D cI cJ zt yX0_addDivisor cX0_addDivisor 3 none 1 0 0 [.ref hX0, .int (i32 l1), .int (i32 l2)] [(hX0, .inr (0, [.ref aX0_divisors, .ref aX0_reachable, .ref aX0_fewest, .ref aX0_takes, .ref aX0_chosen, .int (i32 d_divisorsSize), .int (i32 d_size), .int (i32 d_askedP), .int (i32 d_askedQ), .int (i32 d_factor)])), (aX0_divisors, aI cI 48 d_divisors)] (po_X0_addDivisor cI cJ hX0 aX0_divisors aX0_reachable aX0_fewest aX0_takes aX0_chosen d_size d_askedP d_askedQ d_factor Q) := by
  refine ct_of (by decide +kernel) (Nat.le_of_ble_eq_true rfl) (fun X hl hDD hcI hcJ hzt hR hF hnm g => ?_)
  subst hl; subst hDD; subst hcI; subst hcJ; subst hzt
  show Wat X 0 0 0 [(0, .ref hX0), (1, .int (i32 l1)), (2, .int (i32 l2))] [] [(hX0, .inr (0, [.ref aX0_divisors, .ref aX0_reachable, .ref aX0_fewest, .ref aX0_takes, .ref aX0_chosen, .int (i32 d_divisorsSize), .int (i32 d_size), .int (i32 d_askedP), .int (i32 d_askedQ), .int (i32 d_factor)])), (aX0_divisors, aI X.cI 48 d_divisors)]
  replace g : Gd X cX0_addDivisor RX0 none 3 := g
  rw [wp_X0_addDivisor] at h
  refine q_iload_n g 1 1 rfl dX0_addDivisor_0 ?_
  refine q_iload_n g 2 2 rfl dX0_addDivisor_1 ?_
  refine q_icmp_gt g (35) 37 r_l1 r_l2 (by decide) dX0_addDivisor_2 (fun b2 => ?_) (fun b2 => ?_)
  · replace h := h.1 b2
    refine q_lv (lv' := []) [] rfl ?_
    exact s_X0_addDivisor_37 g hR hX0 aX0_divisors aX0_reachable aX0_fewest aX0_takes aX0_chosen d_size d_askedP d_askedQ d_factor Q hF d_divisors d_divisorsSize r_d_divisors r_d_divisorsSize h
  replace h := h.2 b2
  refine q_aload_n g 0 0 rfl dX0_addDivisor_5 ?_
  refine q_get (C := RX0) (T := TX0) (N := 10) g 57 inX0 0 5 rfl rfl (by decide) wF_X0_57 rfl dX0_addDivisor_6 ?_
  refine q_aload_n g 0 0 rfl dX0_addDivisor_9 ?_
  refine q_get (C := RX0) (T := TX0) (N := 10) g 11 inX0 0 0 rfl rfl (by decide) wF_X0_11 rfl dX0_addDivisor_10 ?_
  refine q_alenI g 1 48 rfl rfl dX0_addDivisor_13 ?_
  refine q_icmp_ge g (23) 37 r_d_divisorsSize (r32_lit _ (by decide)) (by decide) dX0_addDivisor_14 (fun b14 => ?_) (fun b14 => ?_)
  · replace h := h.1 b14
    refine q_lv (lv' := []) [] rfl ?_
    exact s_X0_addDivisor_37 g hR hX0 aX0_divisors aX0_reachable aX0_fewest aX0_takes aX0_chosen d_size d_askedP d_askedQ d_factor Q hF d_divisors d_divisorsSize r_d_divisors r_d_divisorsSize h
  replace h := h.2 b14
  refine q_aload_n g 0 0 rfl dX0_addDivisor_17 ?_
  refine q_get (C := RX0) (T := TX0) (N := 10) g 11 inX0 0 0 rfl rfl (by decide) wF_X0_11 rfl dX0_addDivisor_18 ?_
  refine q_aload_n g 0 0 rfl dX0_addDivisor_21 ?_
  refine q_get (C := RX0) (T := TX0) (N := 10) g 57 inX0 0 5 rfl rfl (by decide) wF_X0_57 rfl dX0_addDivisor_22 ?_
  refine q_iload_n g 1 1 rfl dX0_addDivisor_25 ?_
  obtain ⟨c26, h⟩ := h
  obtain ⟨e26, h⟩ := h
  refine q_iast (ws' := [(hX0, .inr (0, [.ref aX0_divisors, .ref aX0_reachable, .ref aX0_fewest, .ref aX0_takes, .ref aX0_chosen, .int (i32 d_divisorsSize), .int (i32 d_size), .int (i32 d_askedP), .int (i32 d_askedQ), .int (i32 d_factor)])), (aX0_divisors, aI X.cI 48 (ups d_divisors d_divisorsSize l1))]) g 1 rfl c26 e26 (by decide) rfl dX0_addDivisor_26 ?_
  refine q_aload_n g 0 0 rfl dX0_addDivisor_27 ?_
  refine q_dup g rfl dX0_addDivisor_28 ?_
  refine q_get (C := RX0) (T := TX0) (N := 10) g 57 inX0 0 5 rfl rfl (by decide) wF_X0_57 rfl dX0_addDivisor_29 ?_
  refine q_iconst g (1) dX0_addDivisor_32 ?_
  obtain ⟨c33, h⟩ := h
  refine q_iadd g dX0_addDivisor_33 ?_
  refine q_topi c33 (fun x34 ex34 rx34 => ?_)
  replace h := h x34 ex34
  refine q_put (C := RX0) (T := TX0) (N := 10) (ty := .int) (ws' := [(hX0, .inr (0, [.ref aX0_divisors, .ref aX0_reachable, .ref aX0_fewest, .ref aX0_takes, .ref aX0_chosen, .int (i32 x34), .int (i32 d_size), .int (i32 d_askedP), .int (i32 d_askedQ), .int (i32 d_factor)])), (aX0_divisors, aI X.cI 48 (ups d_divisors d_divisorsSize l1))]) g 57 inX0 tyX0_ok nmX0 0 5 rfl rfl (by decide) wF_X0_57 rfl rfl rfl rfl (Nat.le_of_ble_eq_true rfl) rfl dX0_addDivisor_34 ?_
  refine q_lv (lv' := []) [] rfl ?_
  exact s_X0_addDivisor_37 g hR hX0 aX0_divisors aX0_reachable aX0_fewest aX0_takes aX0_chosen d_size d_askedP d_askedQ d_factor Q hF (ups d_divisors d_divisorsSize l1) x34 (rr32_u r_d_divisors r_l1) rx34 h
theorem dX0_addShifted_0 : decode cX0_addShifted 0 = .ok (.iload_n 1, 1) := by decide +kernel
theorem dX0_addShifted_1 : decode cX0_addShifted 1 = .ok (.bipush 64, 2) := by decide +kernel
theorem dX0_addShifted_3 : decode cX0_addShifted 3 = .ok (.idiv, 1) := by decide +kernel
theorem dX0_addShifted_4 : decode cX0_addShifted 4 = .ok (.istore_n 3, 1) := by decide +kernel
theorem dX0_addShifted_5 : decode cX0_addShifted 5 = .ok (.iload_n 1, 1) := by decide +kernel
theorem dX0_addShifted_6 : decode cX0_addShifted 6 = .ok (.bipush 64, 2) := by decide +kernel
theorem dX0_addShifted_8 : decode cX0_addShifted 8 = .ok (.irem, 1) := by decide +kernel
theorem dX0_addShifted_9 : decode cX0_addShifted 9 = .ok (.istore 4, 2) := by decide +kernel
theorem dX0_addShifted_11 : decode cX0_addShifted 11 = .ok (.iload_n 2, 1) := by decide +kernel
theorem dX0_addShifted_12 : decode cX0_addShifted 12 = .ok (.istore 5, 2) := by decide +kernel
theorem dX0_addShifted_14 : decode cX0_addShifted 14 = .ok (.iload 5, 2) := by decide +kernel
theorem dX0_addShifted_16 : decode cX0_addShifted 16 = .ok (.iload_n 3, 1) := by decide +kernel
theorem dX0_addShifted_17 : decode cX0_addShifted 17 = .ok (.if_icmp .lt 68, 3) := by decide +kernel
theorem dX0_addShifted_20 : decode cX0_addShifted 20 = .ok (.aload_n 0, 1) := by decide +kernel
theorem dX0_addShifted_21 : decode cX0_addShifted 21 = .ok (.getfield 15, 3) := by decide +kernel
theorem dX0_addShifted_24 : decode cX0_addShifted 24 = .ok (.iload 5, 2) := by decide +kernel
theorem dX0_addShifted_26 : decode cX0_addShifted 26 = .ok (.iload_n 3, 1) := by decide +kernel
theorem dX0_addShifted_27 : decode cX0_addShifted 27 = .ok (.isub, 1) := by decide +kernel
theorem dX0_addShifted_28 : decode cX0_addShifted 28 = .ok (.laload, 1) := by decide +kernel
theorem dX0_addShifted_29 : decode cX0_addShifted 29 = .ok (.iload 4, 2) := by decide +kernel
theorem dX0_addShifted_31 : decode cX0_addShifted 31 = .ok (.lshl, 1) := by decide +kernel
theorem dX0_addShifted_32 : decode cX0_addShifted 32 = .ok (.lstore 6, 2) := by decide +kernel
theorem dX0_addShifted_34 : decode cX0_addShifted 34 = .ok (.iload 4, 2) := by decide +kernel
theorem dX0_addShifted_36 : decode cX0_addShifted 36 = .ok (.ifCond .le 31, 3) := by decide +kernel
theorem dX0_addShifted_39 : decode cX0_addShifted 39 = .ok (.iload 5, 2) := by decide +kernel
theorem dX0_addShifted_41 : decode cX0_addShifted 41 = .ok (.iload_n 3, 1) := by decide +kernel
theorem dX0_addShifted_42 : decode cX0_addShifted 42 = .ok (.if_icmp .le 25, 3) := by decide +kernel
theorem dX0_addShifted_45 : decode cX0_addShifted 45 = .ok (.lload 6, 2) := by decide +kernel
theorem dX0_addShifted_47 : decode cX0_addShifted 47 = .ok (.aload_n 0, 1) := by decide +kernel
theorem dX0_addShifted_48 : decode cX0_addShifted 48 = .ok (.getfield 15, 3) := by decide +kernel
theorem dX0_addShifted_51 : decode cX0_addShifted 51 = .ok (.iload 5, 2) := by decide +kernel
theorem dX0_addShifted_53 : decode cX0_addShifted 53 = .ok (.iload_n 3, 1) := by decide +kernel
theorem dX0_addShifted_54 : decode cX0_addShifted 54 = .ok (.isub, 1) := by decide +kernel
theorem dX0_addShifted_55 : decode cX0_addShifted 55 = .ok (.iconst 1, 1) := by decide +kernel
theorem dX0_addShifted_56 : decode cX0_addShifted 56 = .ok (.isub, 1) := by decide +kernel
theorem dX0_addShifted_57 : decode cX0_addShifted 57 = .ok (.laload, 1) := by decide +kernel
theorem dX0_addShifted_58 : decode cX0_addShifted 58 = .ok (.bipush 64, 2) := by decide +kernel
theorem dX0_addShifted_60 : decode cX0_addShifted 60 = .ok (.iload 4, 2) := by decide +kernel
theorem dX0_addShifted_62 : decode cX0_addShifted 62 = .ok (.isub, 1) := by decide +kernel
theorem dX0_addShifted_63 : decode cX0_addShifted 63 = .ok (.lushr, 1) := by decide +kernel
theorem dX0_addShifted_64 : decode cX0_addShifted 64 = .ok (.lor, 1) := by decide +kernel
theorem dX0_addShifted_65 : decode cX0_addShifted 65 = .ok (.lstore 6, 2) := by decide +kernel
theorem dX0_addShifted_67 : decode cX0_addShifted 67 = .ok (.aload_n 0, 1) := by decide +kernel
theorem dX0_addShifted_68 : decode cX0_addShifted 68 = .ok (.getfield 15, 3) := by decide +kernel
theorem dX0_addShifted_71 : decode cX0_addShifted 71 = .ok (.iload 5, 2) := by decide +kernel
theorem dX0_addShifted_73 : decode cX0_addShifted 73 = .ok (.dup2, 1) := by decide +kernel
theorem dX0_addShifted_74 : decode cX0_addShifted 74 = .ok (.laload, 1) := by decide +kernel
theorem dX0_addShifted_75 : decode cX0_addShifted 75 = .ok (.lload 6, 2) := by decide +kernel
theorem dX0_addShifted_77 : decode cX0_addShifted 77 = .ok (.lor, 1) := by decide +kernel
theorem dX0_addShifted_78 : decode cX0_addShifted 78 = .ok (.lastore, 1) := by decide +kernel
theorem dX0_addShifted_79 : decode cX0_addShifted 79 = .ok (.iinc 5 (-1), 3) := by decide +kernel
theorem dX0_addShifted_82 : decode cX0_addShifted 82 = .ok (.goto (-68), 3) := by decide +kernel
theorem dX0_addShifted_85 : decode cX0_addShifted 85 = .ok (.return_, 1) := by decide +kernel
abbrev po_X0_addShifted (cI cJ : ClassId) (hX0 : Nat) (aX0_divisors : Nat) (aX0_reachable : Nat) (aX0_fewest : Nat) (aX0_takes : Nat) (aX0_chosen : Nat) (d_divisorsSize : Int) (d_size : Int) (d_askedP : Int) (d_askedQ : Int) (d_factor : Int) (Q : (Int → Int) → Prop) : Option Value → va_W → Prop := fun rv w1 => ∃ (d_reachable : Int → Int), rv = none ∧ w1 = [(hX0, .inr (0, [.ref aX0_divisors, .ref aX0_reachable, .ref aX0_fewest, .ref aX0_takes, .ref aX0_chosen, .int (i32 d_divisorsSize), .int (i32 d_size), .int (i32 d_askedP), .int (i32 d_askedQ), .int (i32 d_factor)])), (aX0_reachable, aL cJ 79 d_reachable)] ∧ rr64 d_reachable ∧ Q d_reachable
def wp_X0_addShifted_67 (Q : (Int → Int) → Prop) (K_14 : (Int → Int) → Int → Int → Int → Prop) (d_reachable : Int → Int) (l3 : Int) (l4 : Int) (l5 : Int) (l6 : Int) : Prop := (0 ≤ l5 ∧ l5 < 79 ∧ ∀ x78 : Int, x78 = (lor64 (d_reachable l5) l6) → 0 ≤ l5 ∧ l5 < 79 ∧ r32 (l5 + (-1)) ∧ K_14 (ups d_reachable l5 x78) l3 l4 (l5 + (-1)))
set_option maxHeartbeats 4000000 in
set_option maxRecDepth 100000 in
theorem s_X0_addShifted_67 {X : Cx} (g : Gd X cX0_addShifted RX0 none 8) (hR : X.R = rmL 1 0 0) (hX0 : Nat) (aX0_divisors : Nat) (aX0_reachable : Nat) (aX0_fewest : Nat) (aX0_takes : Nat) (aX0_chosen : Nat) (d_divisorsSize : Int) (d_size : Int) (d_askedP : Int) (d_askedQ : Int) (d_factor : Int) (Q : (Int → Int) → Prop) (hF : FQ X 0 0 (po_X0_addShifted X.cI X.cJ hX0 aX0_divisors aX0_reachable aX0_fewest aX0_takes aX0_chosen d_divisorsSize d_size d_askedP d_askedQ d_factor Q)) (K_14 : (Int → Int) → Int → Int → Int → Prop) (hK_14 : ∀ (d_reachable : Int → Int) (l3 : Int) (l4 : Int) (l5 : Int), rr64 d_reachable → r32 l3 → r32 l4 → r32 l5 → K_14 d_reachable l3 l4 l5 → Wat X 0 0 14 [(0, .ref hX0), (3, .int (i32 l3)), (4, .int (i32 l4)), (5, .int (i32 l5))] [] [(hX0, .inr (0, [.ref aX0_divisors, .ref aX0_reachable, .ref aX0_fewest, .ref aX0_takes, .ref aX0_chosen, .int (i32 d_divisorsSize), .int (i32 d_size), .int (i32 d_askedP), .int (i32 d_askedQ), .int (i32 d_factor)])), (aX0_reachable, aL X.cJ 79 d_reachable)]) : ∀ (d_reachable : Int → Int) (l3 : Int) (l4 : Int) (l5 : Int) (l6 : Int), rr64 d_reachable → r32 l3 → r32 l4 → r32 l5 → r64 l6 → wp_X0_addShifted_67 Q K_14 d_reachable l3 l4 l5 l6 → Wat X 0 0 67 [(0, .ref hX0), (3, .int (i32 l3)), (4, .int (i32 l4)), (5, .int (i32 l5)), (6, .long (i64 l6))] [] [(hX0, .inr (0, [.ref aX0_divisors, .ref aX0_reachable, .ref aX0_fewest, .ref aX0_takes, .ref aX0_chosen, .int (i32 d_divisorsSize), .int (i32 d_size), .int (i32 d_askedP), .int (i32 d_askedQ), .int (i32 d_factor)])), (aX0_reachable, aL X.cJ 79 d_reachable)] := by
  intro d_reachable l3 l4 l5 l6 r_d_reachable r_l3 r_l4 r_l5 r_l6 h
  rw [wp_X0_addShifted_67] at h
  refine q_aload_n g 0 0 rfl dX0_addShifted_67 ?_
  refine q_get (C := RX0) (T := TX0) (N := 10) g 15 inX0 0 1 rfl rfl (by decide) wF_X0_15 rfl dX0_addShifted_68 ?_
  refine q_iload g 5 3 rfl dX0_addShifted_71 ?_
  refine q_dup2 g rfl rfl dX0_addShifted_73 ?_
  obtain ⟨c74, h⟩ := h
  obtain ⟨e74, h⟩ := h
  refine q_lald g 1 rfl c74 e74 (by decide) dX0_addShifted_74 ?_
  refine q_lload g 6 4 rfl dX0_addShifted_75 ?_
  refine q_lor g dX0_addShifted_77 ?_
  refine q_topl (r_lor64 _ _) (fun x78 ex78 rx78 => ?_)
  replace h := h x78 ex78
  obtain ⟨c78, h⟩ := h
  obtain ⟨e78, h⟩ := h
  refine q_last (ws' := [(hX0, .inr (0, [.ref aX0_divisors, .ref aX0_reachable, .ref aX0_fewest, .ref aX0_takes, .ref aX0_chosen, .int (i32 d_divisorsSize), .int (i32 d_size), .int (i32 d_askedP), .int (i32 d_askedQ), .int (i32 d_factor)])), (aX0_reachable, aL X.cJ 79 (ups d_reachable l5 x78))]) g 1 rfl c78 e78 (by decide) rfl dX0_addShifted_78 ?_
  obtain ⟨c79, h⟩ := h
  refine q_iinc (lv' := [(5, .int (i32 (l5 + (-1)))), (0, .ref hX0), (3, .int (i32 l3)), (4, .int (i32 l4)), (6, .long (i64 l6))]) g 5 3 (-1) (by decide) rfl rfl dX0_addShifted_79 ?_
  refine q_goto g (-68) 14 (by decide) dX0_addShifted_82 ?_
  refine q_lv (lv' := [(0, .ref hX0), (3, .int (i32 l3)), (4, .int (i32 l4)), (5, .int (i32 (l5 + (-1))))]) [1, 2, 3, 0] rfl ?_
  exact hK_14 (ups d_reachable l5 x78) l3 l4 (l5 + (-1)) (rr64_u r_d_reachable rx78) r_l3 r_l4 c79 h
def wp_X0_addShifted_14 (Q : (Int → Int) → Prop) : Nat → (Int → Int) → Int → Int → Int → Prop
  | 0, _, _, _, _ => False
  | n + 1, d_reachable, l3, l4, l5 => ((l5 < l3 → Q d_reachable) ∧
  (¬ (l5 < l3) → (r32 (l5 - l3) ∧ 0 ≤ (l5 - l3) ∧ (l5 - l3) < 79 ∧ ∀ x32 : Int, x32 = (shl64 (d_reachable (l5 - l3)) l4) → ((l4 ≤ 0 → wp_X0_addShifted_67 Q (wp_X0_addShifted_14 Q n) d_reachable l3 l4 l5 x32) ∧
  (¬ (l4 ≤ 0) → ((l5 ≤ l3 → wp_X0_addShifted_67 Q (wp_X0_addShifted_14 Q n) d_reachable l3 l4 l5 x32) ∧
  (¬ (l5 ≤ l3) → (r32 (l5 - l3) ∧ r32 ((l5 - l3) - 1) ∧ 0 ≤ ((l5 - l3) - 1) ∧ ((l5 - l3) - 1) < 79 ∧ r32 (64 - l4) ∧ ∀ x65 : Int, x65 = (lor64 x32 (ushr64 (d_reachable ((l5 - l3) - 1)) (64 - l4))) → wp_X0_addShifted_67 Q (wp_X0_addShifted_14 Q n) d_reachable l3 l4 l5 x65))))))))
set_option maxHeartbeats 4000000 in
set_option maxRecDepth 100000 in
theorem s_X0_addShifted_14 {X : Cx} (g : Gd X cX0_addShifted RX0 none 8) (hR : X.R = rmL 1 0 0) (hX0 : Nat) (aX0_divisors : Nat) (aX0_reachable : Nat) (aX0_fewest : Nat) (aX0_takes : Nat) (aX0_chosen : Nat) (d_divisorsSize : Int) (d_size : Int) (d_askedP : Int) (d_askedQ : Int) (d_factor : Int) (Q : (Int → Int) → Prop) (hF : FQ X 0 0 (po_X0_addShifted X.cI X.cJ hX0 aX0_divisors aX0_reachable aX0_fewest aX0_takes aX0_chosen d_divisorsSize d_size d_askedP d_askedQ d_factor Q)) : ∀ (n : Nat) (d_reachable : Int → Int) (l3 : Int) (l4 : Int) (l5 : Int), rr64 d_reachable → r32 l3 → r32 l4 → r32 l5 → wp_X0_addShifted_14 Q n d_reachable l3 l4 l5 → Wat X 0 0 14 [(0, .ref hX0), (3, .int (i32 l3)), (4, .int (i32 l4)), (5, .int (i32 l5))] [] [(hX0, .inr (0, [.ref aX0_divisors, .ref aX0_reachable, .ref aX0_fewest, .ref aX0_takes, .ref aX0_chosen, .int (i32 d_divisorsSize), .int (i32 d_size), .int (i32 d_askedP), .int (i32 d_askedQ), .int (i32 d_factor)])), (aX0_reachable, aL X.cJ 79 d_reachable)] := by
  intro n
  induction n with
  | zero => intro d_reachable l3 l4 l5 r_d_reachable r_l3 r_l4 r_l5 h; exact False.elim h
  | succ n ih =>
    intro d_reachable l3 l4 l5 r_d_reachable r_l3 r_l4 r_l5 h
    rw [wp_X0_addShifted_14] at h
    refine q_iload g 5 3 rfl dX0_addShifted_14 ?_
    refine q_iload_n g 3 1 rfl dX0_addShifted_16 ?_
    refine q_icmp_lt g (68) 85 r_l5 r_l3 (by decide) dX0_addShifted_17 (fun b17 => ?_) (fun b17 => ?_)
    · replace h := h.1 b17
      exact q_vret g hF ⟨d_reachable, rfl, rfl, r_d_reachable, h⟩ dX0_addShifted_85
    replace h := h.2 b17
    refine q_aload_n g 0 0 rfl dX0_addShifted_20 ?_
    refine q_get (C := RX0) (T := TX0) (N := 10) g 15 inX0 0 1 rfl rfl (by decide) wF_X0_15 rfl dX0_addShifted_21 ?_
    refine q_iload g 5 3 rfl dX0_addShifted_24 ?_
    refine q_iload_n g 3 1 rfl dX0_addShifted_26 ?_
    obtain ⟨c27, h⟩ := h
    refine q_isub g dX0_addShifted_27 ?_
    obtain ⟨c28, h⟩ := h
    obtain ⟨e28, h⟩ := h
    refine q_lald g 1 rfl c28 e28 (by decide) dX0_addShifted_28 ?_
    refine q_iload g 4 2 rfl dX0_addShifted_29 ?_
    refine q_lshl g dX0_addShifted_31 ?_
    refine q_topl (r_shl64 _ _) (fun x32 ex32 rx32 => ?_)
    replace h := h x32 ex32
    refine q_lstore (lv' := [(6, .long (i64 x32)), (0, .ref hX0), (3, .int (i32 l3)), (4, .int (i32 l4)), (5, .int (i32 l5))]) g 6   (by decide) rfl dX0_addShifted_32 ?_
    refine q_iload g 4 3 rfl dX0_addShifted_34 ?_
    refine q_if_le g (31) 67 r_l4 (by decide) dX0_addShifted_36 (fun b36 => ?_) (fun b36 => ?_)
    · replace h := h.1 b36
      refine q_lv (lv' := [(0, .ref hX0), (3, .int (i32 l3)), (4, .int (i32 l4)), (5, .int (i32 l5)), (6, .long (i64 x32))]) [1, 2, 3, 4, 0] rfl ?_
      exact s_X0_addShifted_67 g hR hX0 aX0_divisors aX0_reachable aX0_fewest aX0_takes aX0_chosen d_divisorsSize d_size d_askedP d_askedQ d_factor Q hF (wp_X0_addShifted_14 Q n) (fun v0 v1 v2 v3 w0 w1 w2 w3 hh => ih v0 v1 v2 v3 w0 w1 w2 w3 hh) d_reachable l3 l4 l5 x32 r_d_reachable r_l3 r_l4 r_l5 rx32 h
    replace h := h.2 b36
    refine q_iload g 5 4 rfl dX0_addShifted_39 ?_
    refine q_iload_n g 3 2 rfl dX0_addShifted_41 ?_
    refine q_icmp_le g (25) 67 r_l5 r_l3 (by decide) dX0_addShifted_42 (fun b42 => ?_) (fun b42 => ?_)
    · replace h := h.1 b42
      refine q_lv (lv' := [(0, .ref hX0), (3, .int (i32 l3)), (4, .int (i32 l4)), (5, .int (i32 l5)), (6, .long (i64 x32))]) [1, 2, 3, 4, 0] rfl ?_
      exact s_X0_addShifted_67 g hR hX0 aX0_divisors aX0_reachable aX0_fewest aX0_takes aX0_chosen d_divisorsSize d_size d_askedP d_askedQ d_factor Q hF (wp_X0_addShifted_14 Q n) (fun v0 v1 v2 v3 w0 w1 w2 w3 hh => ih v0 v1 v2 v3 w0 w1 w2 w3 hh) d_reachable l3 l4 l5 x32 r_d_reachable r_l3 r_l4 r_l5 rx32 h
    replace h := h.2 b42
    refine q_lload g 6 0 rfl dX0_addShifted_45 ?_
    refine q_aload_n g 0 1 rfl dX0_addShifted_47 ?_
    refine q_get (C := RX0) (T := TX0) (N := 10) g 15 inX0 0 1 rfl rfl (by decide) wF_X0_15 rfl dX0_addShifted_48 ?_
    refine q_iload g 5 4 rfl dX0_addShifted_51 ?_
    refine q_iload_n g 3 2 rfl dX0_addShifted_53 ?_
    obtain ⟨c54, h⟩ := h
    refine q_isub g dX0_addShifted_54 ?_
    refine q_iconst g (1) dX0_addShifted_55 ?_
    obtain ⟨c56, h⟩ := h
    refine q_isub g dX0_addShifted_56 ?_
    obtain ⟨c57, h⟩ := h
    obtain ⟨e57, h⟩ := h
    refine q_lald g 1 rfl c57 e57 (by decide) dX0_addShifted_57 ?_
    refine q_bipush g (64) (by decide) (by decide) dX0_addShifted_58 ?_
    refine q_iload g 4 3 rfl dX0_addShifted_60 ?_
    obtain ⟨c62, h⟩ := h
    refine q_isub g dX0_addShifted_62 ?_
    refine q_lushr g dX0_addShifted_63 ?_
    refine q_lor g dX0_addShifted_64 ?_
    refine q_topl (r_lor64 _ _) (fun x65 ex65 rx65 => ?_)
    replace h := h x65 ex65
    refine q_lstore (lv' := [(6, .long (i64 x65)), (0, .ref hX0), (3, .int (i32 l3)), (4, .int (i32 l4)), (5, .int (i32 l5))]) g 6   (by decide) rfl dX0_addShifted_65 ?_
    refine q_lv (lv' := [(0, .ref hX0), (3, .int (i32 l3)), (4, .int (i32 l4)), (5, .int (i32 l5)), (6, .long (i64 x65))]) [1, 2, 3, 4, 0] rfl ?_
    exact s_X0_addShifted_67 g hR hX0 aX0_divisors aX0_reachable aX0_fewest aX0_takes aX0_chosen d_divisorsSize d_size d_askedP d_askedQ d_factor Q hF (wp_X0_addShifted_14 Q n) (fun v0 v1 v2 v3 w0 w1 w2 w3 hh => ih v0 v1 v2 v3 w0 w1 w2 w3 hh) d_reachable l3 l4 l5 x65 r_d_reachable r_l3 r_l4 r_l5 rx65 h
def wp_X0_addShifted (Q : (Int → Int) → Prop) (d_reachable : Int → Int) (l1 : Int) (l2 : Int) : Prop := (∀ x4 : Int, x4 = (l1.tdiv 64) → ∀ x9 : Int, x9 = (l1.tmod 64) → (∃ n0 : Nat, wp_X0_addShifted_14 Q n0 d_reachable x4 x9 l2))
set_option maxHeartbeats 4000000 in
set_option maxRecDepth 100000 in
theorem c_X0_addShifted (l : Launch) (D : va_G) (cI cJ : ClassId) (zt : Nat) (hX0 : Nat) (aX0_divisors : Nat) (aX0_reachable : Nat) (aX0_fewest : Nat) (aX0_takes : Nat) (aX0_chosen : Nat) (d_divisorsSize : Int) (d_size : Int) (d_askedP : Int) (d_askedQ : Int) (d_factor : Int) (d_reachable : Int → Int) (l1 : Int) (l2 : Int) (Q : (Int → Int) → Prop) (r_d_reachable : rr64 d_reachable) (r_l1 : r32 l1) (r_l2 : r32 l2) (h : wp_X0_addShifted Q d_reachable l1 l2) : Ct l D cI cJ zt yX0_addShifted cX0_addShifted 8 none 1 0 0 [.ref hX0, .int (i32 l1), .int (i32 l2)] [(hX0, .inr (0, [.ref aX0_divisors, .ref aX0_reachable, .ref aX0_fewest, .ref aX0_takes, .ref aX0_chosen, .int (i32 d_divisorsSize), .int (i32 d_size), .int (i32 d_askedP), .int (i32 d_askedQ), .int (i32 d_factor)])), (aX0_reachable, aL cJ 79 d_reachable)] (po_X0_addShifted cI cJ hX0 aX0_divisors aX0_reachable aX0_fewest aX0_takes aX0_chosen d_divisorsSize d_size d_askedP d_askedQ d_factor Q) := by
  refine ct_of (by decide +kernel) (Nat.le_of_ble_eq_true rfl) (fun X hl hDD hcI hcJ hzt hR hF hnm g => ?_)
  subst hl; subst hDD; subst hcI; subst hcJ; subst hzt
  show Wat X 0 0 0 [(0, .ref hX0), (1, .int (i32 l1)), (2, .int (i32 l2))] [] [(hX0, .inr (0, [.ref aX0_divisors, .ref aX0_reachable, .ref aX0_fewest, .ref aX0_takes, .ref aX0_chosen, .int (i32 d_divisorsSize), .int (i32 d_size), .int (i32 d_askedP), .int (i32 d_askedQ), .int (i32 d_factor)])), (aX0_reachable, aL X.cJ 79 d_reachable)]
  replace g : Gd X cX0_addShifted RX0 none 8 := g
  rw [wp_X0_addShifted] at h
  refine q_iload_n g 1 1 rfl dX0_addShifted_0 ?_
  refine q_bipush g (64) (by decide) (by decide) dX0_addShifted_1 ?_
  refine q_idiv g r_l1 (r32_lit _ (by decide)) (ne_of_pos (by decide)) dX0_addShifted_3 ?_
  refine q_topi (r32_tdiv r_l1 (by decide)) (fun x4 ex4 rx4 => ?_)
  replace h := h x4 ex4
  refine q_istore_n (lv' := [(3, .int (i32 x4)), (0, .ref hX0), (1, .int (i32 l1)), (2, .int (i32 l2))]) g 3 3 rfl (by decide) rfl dX0_addShifted_4 ?_
  refine q_iload_n g 1 2 rfl dX0_addShifted_5 ?_
  refine q_bipush g (64) (by decide) (by decide) dX0_addShifted_6 ?_
  refine q_irem g r_l1 (r32_lit _ (by decide)) (ne_of_pos (by decide)) dX0_addShifted_8 ?_
  refine q_topi (r32_tmod r_l1 (r32_lit _ (by decide)) (ne_of_pos (by decide))) (fun x9 ex9 rx9 => ?_)
  replace h := h x9 ex9
  refine q_istore (lv' := [(4, .int (i32 x9)), (3, .int (i32 x4)), (0, .ref hX0), (1, .int (i32 l1)), (2, .int (i32 l2))]) g 4   (by decide) rfl dX0_addShifted_9 ?_
  refine q_iload_n g 2 4 rfl dX0_addShifted_11 ?_
  refine q_istore (lv' := [(5, .int (i32 l2)), (4, .int (i32 x9)), (3, .int (i32 x4)), (0, .ref hX0), (1, .int (i32 l1)), (2, .int (i32 l2))]) g 5   (by decide) rfl dX0_addShifted_12 ?_
  refine q_lv (lv' := [(0, .ref hX0), (3, .int (i32 x4)), (4, .int (i32 x9)), (5, .int (i32 l2))]) [3, 2, 1, 0] rfl ?_
  obtain ⟨n0, h⟩ := h
  exact s_X0_addShifted_14 g hR hX0 aX0_divisors aX0_reachable aX0_fewest aX0_takes aX0_chosen d_divisorsSize d_size d_askedP d_askedQ d_factor Q hF n0 d_reachable x4 x9 l2 r_d_reachable rx4 rx9 r_l2 h
theorem dX0_at_0 : decode cX0_at 0 = .ok (.iload_n 1, 1) := by decide +kernel
theorem dX0_at_1 : decode cX0_at 1 = .ok (.ifCond .lt 29, 3) := by decide +kernel
theorem dX0_at_4 : decode cX0_at 4 = .ok (.iload_n 1, 1) := by decide +kernel
theorem dX0_at_5 : decode cX0_at 5 = .ok (.aload_n 0, 1) := by decide +kernel
theorem dX0_at_6 : decode cX0_at 6 = .ok (.getfield 35, 3) := by decide +kernel
theorem dX0_at_9 : decode cX0_at 9 = .ok (.if_icmp .ge 21, 3) := by decide +kernel
theorem dX0_at_12 : decode cX0_at 12 = .ok (.iload_n 1, 1) := by decide +kernel
theorem dX0_at_13 : decode cX0_at 13 = .ok (.aload_n 0, 1) := by decide +kernel
theorem dX0_at_14 : decode cX0_at 14 = .ok (.getfield 25, 3) := by decide +kernel
theorem dX0_at_17 : decode cX0_at 17 = .ok (.arraylength, 1) := by decide +kernel
theorem dX0_at_18 : decode cX0_at 18 = .ok (.if_icmp .ge 12, 3) := by decide +kernel
theorem dX0_at_21 : decode cX0_at 21 = .ok (.aload_n 0, 1) := by decide +kernel
theorem dX0_at_22 : decode cX0_at 22 = .ok (.getfield 25, 3) := by decide +kernel
theorem dX0_at_25 : decode cX0_at 25 = .ok (.iload_n 1, 1) := by decide +kernel
theorem dX0_at_26 : decode cX0_at 26 = .ok (.iaload, 1) := by decide +kernel
theorem dX0_at_27 : decode cX0_at 27 = .ok (.goto 4, 3) := by decide +kernel
theorem dX0_at_30 : decode cX0_at 30 = .ok (.iconst 0, 1) := by decide +kernel
theorem dX0_at_31 : decode cX0_at 31 = .ok (.ireturn, 1) := by decide +kernel
abbrev po_X0_at (cI cJ : ClassId) (hX0 : Nat) (aX0_divisors : Nat) (aX0_reachable : Nat) (aX0_fewest : Nat) (aX0_takes : Nat) (aX0_chosen : Nat) (d_divisorsSize : Int) (d_size : Int) (d_askedP : Int) (d_askedQ : Int) (d_factor : Int) (d_chosen : Int → Int) (Q : Int → Prop) : Option Value → va_W → Prop := fun rv w1 => ∃ (r0 : Int), rv = some (.int (i32 r0)) ∧ w1 = [(hX0, .inr (0, [.ref aX0_divisors, .ref aX0_reachable, .ref aX0_fewest, .ref aX0_takes, .ref aX0_chosen, .int (i32 d_divisorsSize), .int (i32 d_size), .int (i32 d_askedP), .int (i32 d_askedQ), .int (i32 d_factor)])), (aX0_chosen, aI cI 48 d_chosen)] ∧ r32 r0 ∧ Q r0
def wp_X0_at_31 (Q : Int → Prop) (d_chosen : Int → Int) (d_size : Int) (k0 : Int) : Prop := Q k0
set_option maxHeartbeats 4000000 in
set_option maxRecDepth 100000 in
theorem s_X0_at_31 {X : Cx} (g : Gd X cX0_at RX0 (some .int) 2) (hR : X.R = rmL 1 0 0) (hX0 : Nat) (aX0_divisors : Nat) (aX0_reachable : Nat) (aX0_fewest : Nat) (aX0_takes : Nat) (aX0_chosen : Nat) (d_divisorsSize : Int) (d_askedP : Int) (d_askedQ : Int) (d_factor : Int) (d_chosen : Int → Int) (d_size : Int) (r_d_chosen : rr32 d_chosen) (r_d_size : r32 d_size) (Q : Int → Prop) (hF : FQ X 0 0 (po_X0_at X.cI X.cJ hX0 aX0_divisors aX0_reachable aX0_fewest aX0_takes aX0_chosen d_divisorsSize d_size d_askedP d_askedQ d_factor d_chosen Q)) : ∀ (k0 : Int), r32 k0 → wp_X0_at_31 Q d_chosen d_size k0 → Wat X 0 0 31 [] [.int (i32 k0)] [(hX0, .inr (0, [.ref aX0_divisors, .ref aX0_reachable, .ref aX0_fewest, .ref aX0_takes, .ref aX0_chosen, .int (i32 d_divisorsSize), .int (i32 d_size), .int (i32 d_askedP), .int (i32 d_askedQ), .int (i32 d_factor)])), (aX0_chosen, aI X.cI 48 d_chosen)] := by
  intro k0 r_k0 h
  rw [wp_X0_at_31] at h
  exact q_iret g hF ⟨k0, rfl, rfl, r_k0, h⟩ dX0_at_31
def wp_X0_at_30 (Q : Int → Prop) (d_chosen : Int → Int) (d_size : Int) : Prop := wp_X0_at_31 Q d_chosen d_size 0
set_option maxHeartbeats 4000000 in
set_option maxRecDepth 100000 in
theorem s_X0_at_30 {X : Cx} (g : Gd X cX0_at RX0 (some .int) 2) (hR : X.R = rmL 1 0 0) (hX0 : Nat) (aX0_divisors : Nat) (aX0_reachable : Nat) (aX0_fewest : Nat) (aX0_takes : Nat) (aX0_chosen : Nat) (d_divisorsSize : Int) (d_askedP : Int) (d_askedQ : Int) (d_factor : Int) (d_chosen : Int → Int) (d_size : Int) (r_d_chosen : rr32 d_chosen) (r_d_size : r32 d_size) (Q : Int → Prop) (hF : FQ X 0 0 (po_X0_at X.cI X.cJ hX0 aX0_divisors aX0_reachable aX0_fewest aX0_takes aX0_chosen d_divisorsSize d_size d_askedP d_askedQ d_factor d_chosen Q)) : wp_X0_at_30 Q d_chosen d_size → Wat X 0 0 30 [] [] [(hX0, .inr (0, [.ref aX0_divisors, .ref aX0_reachable, .ref aX0_fewest, .ref aX0_takes, .ref aX0_chosen, .int (i32 d_divisorsSize), .int (i32 d_size), .int (i32 d_askedP), .int (i32 d_askedQ), .int (i32 d_factor)])), (aX0_chosen, aI X.cI 48 d_chosen)] := by
  intro h
  rw [wp_X0_at_30] at h
  refine q_iconst g (0) dX0_at_30 ?_
  exact s_X0_at_31 g hR hX0 aX0_divisors aX0_reachable aX0_fewest aX0_takes aX0_chosen d_divisorsSize d_askedP d_askedQ d_factor d_chosen d_size r_d_chosen r_d_size Q hF 0 (r32_lit _ (by decide)) h
def wp_X0_at (Q : Int → Prop) (d_chosen : Int → Int) (d_size : Int) (l1 : Int) : Prop := ((l1 < 0 → wp_X0_at_30 Q d_chosen d_size) ∧
  (¬ (l1 < 0) → ((d_size ≤ l1 → wp_X0_at_30 Q d_chosen d_size) ∧
  (¬ (d_size ≤ l1) → ((48 ≤ l1 → wp_X0_at_30 Q d_chosen d_size) ∧
  (¬ (48 ≤ l1) → (0 ≤ l1 ∧ l1 < 48 ∧ wp_X0_at_31 Q d_chosen d_size (d_chosen l1))))))))
set_option maxHeartbeats 4000000 in
set_option maxRecDepth 100000 in
theorem c_X0_at (l : Launch) (D : va_G) (cI cJ : ClassId) (zt : Nat) (hX0 : Nat) (aX0_divisors : Nat) (aX0_reachable : Nat) (aX0_fewest : Nat) (aX0_takes : Nat) (aX0_chosen : Nat) (d_divisorsSize : Int) (d_size : Int) (d_askedP : Int) (d_askedQ : Int) (d_factor : Int) (d_chosen : Int → Int) (l1 : Int) (Q : Int → Prop) (r_d_chosen : rr32 d_chosen) (r_d_size : r32 d_size) (r_l1 : r32 l1) (h : wp_X0_at Q d_chosen d_size l1) : Ct l D cI cJ zt yX0_at cX0_at 2 (some .int) 1 0 0 [.ref hX0, .int (i32 l1)] [(hX0, .inr (0, [.ref aX0_divisors, .ref aX0_reachable, .ref aX0_fewest, .ref aX0_takes, .ref aX0_chosen, .int (i32 d_divisorsSize), .int (i32 d_size), .int (i32 d_askedP), .int (i32 d_askedQ), .int (i32 d_factor)])), (aX0_chosen, aI cI 48 d_chosen)] (po_X0_at cI cJ hX0 aX0_divisors aX0_reachable aX0_fewest aX0_takes aX0_chosen d_divisorsSize d_size d_askedP d_askedQ d_factor d_chosen Q) := by
  refine ct_of (by decide +kernel) (Nat.le_of_ble_eq_true rfl) (fun X hl hDD hcI hcJ hzt hR hF hnm g => ?_)
  subst hl; subst hDD; subst hcI; subst hcJ; subst hzt
  show Wat X 0 0 0 [(0, .ref hX0), (1, .int (i32 l1))] [] [(hX0, .inr (0, [.ref aX0_divisors, .ref aX0_reachable, .ref aX0_fewest, .ref aX0_takes, .ref aX0_chosen, .int (i32 d_divisorsSize), .int (i32 d_size), .int (i32 d_askedP), .int (i32 d_askedQ), .int (i32 d_factor)])), (aX0_chosen, aI X.cI 48 d_chosen)]
  replace g : Gd X cX0_at RX0 (some .int) 2 := g
  rw [wp_X0_at] at h
  refine q_iload_n g 1 1 rfl dX0_at_0 ?_
  refine q_if_lt g (29) 30 r_l1 (by decide) dX0_at_1 (fun b1 => ?_) (fun b1 => ?_)
  · replace h := h.1 b1
    refine q_lv (lv' := []) [] rfl ?_
    exact s_X0_at_30 g hR hX0 aX0_divisors aX0_reachable aX0_fewest aX0_takes aX0_chosen d_divisorsSize d_askedP d_askedQ d_factor d_chosen d_size r_d_chosen r_d_size Q hF h
  replace h := h.2 b1
  refine q_iload_n g 1 1 rfl dX0_at_4 ?_
  refine q_aload_n g 0 0 rfl dX0_at_5 ?_
  refine q_get (C := RX0) (T := TX0) (N := 10) g 35 inX0 0 6 rfl rfl (by decide) wF_X0_35 rfl dX0_at_6 ?_
  refine q_icmp_ge g (21) 30 r_l1 r_d_size (by decide) dX0_at_9 (fun b9 => ?_) (fun b9 => ?_)
  · replace h := h.1 b9
    refine q_lv (lv' := []) [] rfl ?_
    exact s_X0_at_30 g hR hX0 aX0_divisors aX0_reachable aX0_fewest aX0_takes aX0_chosen d_divisorsSize d_askedP d_askedQ d_factor d_chosen d_size r_d_chosen r_d_size Q hF h
  replace h := h.2 b9
  refine q_iload_n g 1 1 rfl dX0_at_12 ?_
  refine q_aload_n g 0 0 rfl dX0_at_13 ?_
  refine q_get (C := RX0) (T := TX0) (N := 10) g 25 inX0 0 4 rfl rfl (by decide) wF_X0_25 rfl dX0_at_14 ?_
  refine q_alenI g 1 48 rfl rfl dX0_at_17 ?_
  refine q_icmp_ge g (12) 30 r_l1 (r32_lit _ (by decide)) (by decide) dX0_at_18 (fun b18 => ?_) (fun b18 => ?_)
  · replace h := h.1 b18
    refine q_lv (lv' := []) [] rfl ?_
    exact s_X0_at_30 g hR hX0 aX0_divisors aX0_reachable aX0_fewest aX0_takes aX0_chosen d_divisorsSize d_askedP d_askedQ d_factor d_chosen d_size r_d_chosen r_d_size Q hF h
  replace h := h.2 b18
  refine q_aload_n g 0 0 rfl dX0_at_21 ?_
  refine q_get (C := RX0) (T := TX0) (N := 10) g 25 inX0 0 4 rfl rfl (by decide) wF_X0_25 rfl dX0_at_22 ?_
  refine q_iload_n g 1 1 rfl dX0_at_25 ?_
  obtain ⟨c26, h⟩ := h
  obtain ⟨e26, h⟩ := h
  refine q_iald g 1 rfl c26 e26 (by decide) dX0_at_26 ?_
  refine q_goto g (4) 31 (by decide) dX0_at_27 ?_
  refine q_lv (lv' := []) [] rfl ?_
  exact s_X0_at_31 g hR hX0 aX0_divisors aX0_reachable aX0_fewest aX0_takes aX0_chosen d_divisorsSize d_askedP d_askedQ d_factor d_chosen d_size r_d_chosen r_d_size Q hF (d_chosen l1) (r_d_chosen _) h
theorem dX0_canMake_0 : decode cX0_canMake 0 = .ok (.iconst 0, 1) := by decide +kernel
theorem dX0_canMake_1 : decode cX0_canMake 1 = .ok (.istore_n 2, 1) := by decide +kernel
theorem dX0_canMake_2 : decode cX0_canMake 2 = .ok (.iconst 0, 1) := by decide +kernel
theorem dX0_canMake_3 : decode cX0_canMake 3 = .ok (.istore_n 3, 1) := by decide +kernel
theorem dX0_canMake_4 : decode cX0_canMake 4 = .ok (.iload_n 3, 1) := by decide +kernel
theorem dX0_canMake_5 : decode cX0_canMake 5 = .ok (.aload_n 0, 1) := by decide +kernel
theorem dX0_canMake_6 : decode cX0_canMake 6 = .ok (.getfield 57, 3) := by decide +kernel
theorem dX0_canMake_9 : decode cX0_canMake 9 = .ok (.if_icmp .ge 18, 3) := by decide +kernel
theorem dX0_canMake_12 : decode cX0_canMake 12 = .ok (.iload_n 2, 1) := by decide +kernel
theorem dX0_canMake_13 : decode cX0_canMake 13 = .ok (.aload_n 0, 1) := by decide +kernel
theorem dX0_canMake_14 : decode cX0_canMake 14 = .ok (.getfield 11, 3) := by decide +kernel
theorem dX0_canMake_17 : decode cX0_canMake 17 = .ok (.iload_n 3, 1) := by decide +kernel
theorem dX0_canMake_18 : decode cX0_canMake 18 = .ok (.iaload, 1) := by decide +kernel
theorem dX0_canMake_19 : decode cX0_canMake 19 = .ok (.iadd, 1) := by decide +kernel
theorem dX0_canMake_20 : decode cX0_canMake 20 = .ok (.istore_n 2, 1) := by decide +kernel
theorem dX0_canMake_21 : decode cX0_canMake 21 = .ok (.iinc 3 1, 3) := by decide +kernel
theorem dX0_canMake_24 : decode cX0_canMake 24 = .ok (.goto (-20), 3) := by decide +kernel
theorem dX0_canMake_27 : decode cX0_canMake 27 = .ok (.iload_n 2, 1) := by decide +kernel
theorem dX0_canMake_28 : decode cX0_canMake 28 = .ok (.iload_n 1, 1) := by decide +kernel
theorem dX0_canMake_29 : decode cX0_canMake 29 = .ok (.if_icmp .lt 14, 3) := by decide +kernel
theorem dX0_canMake_32 : decode cX0_canMake 32 = .ok (.iload_n 1, 1) := by decide +kernel
theorem dX0_canMake_33 : decode cX0_canMake 33 = .ok (.ifCond .lt 10, 3) := by decide +kernel
theorem dX0_canMake_36 : decode cX0_canMake 36 = .ok (.iload_n 1, 1) := by decide +kernel
theorem dX0_canMake_37 : decode cX0_canMake 37 = .ok (.sipush 5000, 3) := by decide +kernel
theorem dX0_canMake_40 : decode cX0_canMake 40 = .ok (.if_icmp .le 5, 3) := by decide +kernel
theorem dX0_canMake_43 : decode cX0_canMake 43 = .ok (.iconst 0, 1) := by decide +kernel
theorem dX0_canMake_44 : decode cX0_canMake 44 = .ok (.ireturn, 1) := by decide +kernel
theorem dX0_canMake_45 : decode cX0_canMake 45 = .ok (.iload_n 1, 1) := by decide +kernel
theorem dX0_canMake_46 : decode cX0_canMake 46 = .ok (.bipush 64, 2) := by decide +kernel
theorem dX0_canMake_48 : decode cX0_canMake 48 = .ok (.idiv, 1) := by decide +kernel
theorem dX0_canMake_49 : decode cX0_canMake 49 = .ok (.istore_n 3, 1) := by decide +kernel
theorem dX0_canMake_50 : decode cX0_canMake 50 = .ok (.aload_n 0, 1) := by decide +kernel
theorem dX0_canMake_51 : decode cX0_canMake 51 = .ok (.getfield 15, 3) := by decide +kernel
theorem dX0_canMake_54 : decode cX0_canMake 54 = .ok (.lconst 0, 1) := by decide +kernel
theorem dX0_canMake_55 : decode cX0_canMake 55 = .ok (.invokestatic 63, 3) := by decide +kernel
theorem dX0_canMake_58 : decode cX0_canMake 58 = .ok (.aload_n 0, 1) := by decide +kernel
theorem dX0_canMake_59 : decode cX0_canMake 59 = .ok (.getfield 15, 3) := by decide +kernel
theorem dX0_canMake_62 : decode cX0_canMake 62 = .ok (.iconst 0, 1) := by decide +kernel
theorem dX0_canMake_63 : decode cX0_canMake 63 = .ok (.lconst 1, 1) := by decide +kernel
theorem dX0_canMake_64 : decode cX0_canMake 64 = .ok (.lastore, 1) := by decide +kernel
theorem dX0_canMake_65 : decode cX0_canMake 65 = .ok (.iconst 0, 1) := by decide +kernel
theorem dX0_canMake_66 : decode cX0_canMake 66 = .ok (.istore 4, 2) := by decide +kernel
theorem dX0_canMake_68 : decode cX0_canMake 68 = .ok (.iload 4, 2) := by decide +kernel
theorem dX0_canMake_70 : decode cX0_canMake 70 = .ok (.aload_n 0, 1) := by decide +kernel
theorem dX0_canMake_71 : decode cX0_canMake 71 = .ok (.getfield 57, 3) := by decide +kernel
theorem dX0_canMake_74 : decode cX0_canMake 74 = .ok (.if_icmp .ge 21, 3) := by decide +kernel
theorem dX0_canMake_77 : decode cX0_canMake 77 = .ok (.aload_n 0, 1) := by decide +kernel
theorem dX0_canMake_78 : decode cX0_canMake 78 = .ok (.aload_n 0, 1) := by decide +kernel
theorem dX0_canMake_79 : decode cX0_canMake 79 = .ok (.getfield 11, 3) := by decide +kernel
theorem dX0_canMake_82 : decode cX0_canMake 82 = .ok (.iload 4, 2) := by decide +kernel
theorem dX0_canMake_84 : decode cX0_canMake 84 = .ok (.iaload, 1) := by decide +kernel
theorem dX0_canMake_85 : decode cX0_canMake 85 = .ok (.iload_n 3, 1) := by decide +kernel
theorem dX0_canMake_86 : decode cX0_canMake 86 = .ok (.invokevirtual 69, 3) := by decide +kernel
theorem dX0_canMake_89 : decode cX0_canMake 89 = .ok (.iinc 4 1, 3) := by decide +kernel
theorem dX0_canMake_92 : decode cX0_canMake 92 = .ok (.goto (-24), 3) := by decide +kernel
theorem dX0_canMake_95 : decode cX0_canMake 95 = .ok (.aload_n 0, 1) := by decide +kernel
theorem dX0_canMake_96 : decode cX0_canMake 96 = .ok (.getfield 15, 3) := by decide +kernel
theorem dX0_canMake_99 : decode cX0_canMake 99 = .ok (.iload_n 3, 1) := by decide +kernel
theorem dX0_canMake_100 : decode cX0_canMake 100 = .ok (.laload, 1) := by decide +kernel
theorem dX0_canMake_101 : decode cX0_canMake 101 = .ok (.iload_n 1, 1) := by decide +kernel
theorem dX0_canMake_102 : decode cX0_canMake 102 = .ok (.bipush 64, 2) := by decide +kernel
theorem dX0_canMake_104 : decode cX0_canMake 104 = .ok (.irem, 1) := by decide +kernel
theorem dX0_canMake_105 : decode cX0_canMake 105 = .ok (.lushr, 1) := by decide +kernel
theorem dX0_canMake_106 : decode cX0_canMake 106 = .ok (.lconst 1, 1) := by decide +kernel
theorem dX0_canMake_107 : decode cX0_canMake 107 = .ok (.land, 1) := by decide +kernel
theorem dX0_canMake_108 : decode cX0_canMake 108 = .ok (.lconst 0, 1) := by decide +kernel
theorem dX0_canMake_109 : decode cX0_canMake 109 = .ok (.lcmp, 1) := by decide +kernel
theorem dX0_canMake_110 : decode cX0_canMake 110 = .ok (.ifCond .eq 7, 3) := by decide +kernel
theorem dX0_canMake_113 : decode cX0_canMake 113 = .ok (.iconst 1, 1) := by decide +kernel
theorem dX0_canMake_114 : decode cX0_canMake 114 = .ok (.goto 4, 3) := by decide +kernel
theorem dX0_canMake_117 : decode cX0_canMake 117 = .ok (.iconst 0, 1) := by decide +kernel
theorem dX0_canMake_118 : decode cX0_canMake 118 = .ok (.ireturn, 1) := by decide +kernel
abbrev po_X0_canMake (cI cJ : ClassId) (hX0 : Nat) (aX0_divisors : Nat) (aX0_reachable : Nat) (aX0_fewest : Nat) (aX0_takes : Nat) (aX0_chosen : Nat) (d_divisorsSize : Int) (d_size : Int) (d_askedP : Int) (d_askedQ : Int) (d_factor : Int) (d_divisors : Int → Int) (Q : Int → (Int → Int) → Prop) : Option Value → va_W → Prop := fun rv w1 => ∃ (r0 : Int) (d_reachable : Int → Int), rv = some (.int (i32 r0)) ∧ w1 = [(hX0, .inr (0, [.ref aX0_divisors, .ref aX0_reachable, .ref aX0_fewest, .ref aX0_takes, .ref aX0_chosen, .int (i32 d_divisorsSize), .int (i32 d_size), .int (i32 d_askedP), .int (i32 d_askedQ), .int (i32 d_factor)])), (aX0_divisors, aI cI 48 d_divisors), (aX0_reachable, aL cJ 79 d_reachable)] ∧ r32 r0 ∧ rr64 d_reachable ∧ Q r0 d_reachable
def wp_X0_canMake_43 (Q : Int → (Int → Int) → Prop) (d_divisors : Int → Int) (d_divisorsSize : Int) (d_reachable : Int → Int) : Prop := Q 0 d_reachable
set_option maxHeartbeats 4000000 in
set_option maxRecDepth 100000 in
theorem s_X0_canMake_43 {X : Cx} (g : Gd X cX0_canMake RX0 (some .boolean) 5) (hR : X.R = rmL 2 0 0) (hX0 : Nat) (aX0_divisors : Nat) (aX0_reachable : Nat) (aX0_fewest : Nat) (aX0_takes : Nat) (aX0_chosen : Nat) (d_size : Int) (d_askedP : Int) (d_askedQ : Int) (d_factor : Int) (d_divisors : Int → Int) (d_divisorsSize : Int) (r_d_divisors : rr32 d_divisors) (r_d_divisorsSize : r32 d_divisorsSize) (Q : Int → (Int → Int) → Prop) (hF : FQ X 0 0 (po_X0_canMake X.cI X.cJ hX0 aX0_divisors aX0_reachable aX0_fewest aX0_takes aX0_chosen d_divisorsSize d_size d_askedP d_askedQ d_factor d_divisors Q)) : ∀ (d_reachable : Int → Int), rr64 d_reachable → wp_X0_canMake_43 Q d_divisors d_divisorsSize d_reachable → Wat X 0 0 43 [] [] [(hX0, .inr (0, [.ref aX0_divisors, .ref aX0_reachable, .ref aX0_fewest, .ref aX0_takes, .ref aX0_chosen, .int (i32 d_divisorsSize), .int (i32 d_size), .int (i32 d_askedP), .int (i32 d_askedQ), .int (i32 d_factor)])), (aX0_divisors, aI X.cI 48 d_divisors), (aX0_reachable, aL X.cJ 79 d_reachable)] := by
  intro d_reachable r_d_reachable h
  rw [wp_X0_canMake_43] at h
  refine q_iconst g (0) dX0_canMake_43 ?_
  exact q_zret g hF (by decide) ⟨0, d_reachable, rfl, rfl, (r32_lit _ (by decide)), r_d_reachable, h⟩ dX0_canMake_44
def wp_X0_canMake_118 (Q : Int → (Int → Int) → Prop) (d_divisors : Int → Int) (d_divisorsSize : Int) (d_reachable : Int → Int) (k0 : Int) : Prop := ((k0 = 0 ∨ k0 = 1) ∧ Q k0 d_reachable)
set_option maxHeartbeats 4000000 in
set_option maxRecDepth 100000 in
theorem s_X0_canMake_118 {X : Cx} (g : Gd X cX0_canMake RX0 (some .boolean) 5) (hR : X.R = rmL 2 0 0) (hX0 : Nat) (aX0_divisors : Nat) (aX0_reachable : Nat) (aX0_fewest : Nat) (aX0_takes : Nat) (aX0_chosen : Nat) (d_size : Int) (d_askedP : Int) (d_askedQ : Int) (d_factor : Int) (d_divisors : Int → Int) (d_divisorsSize : Int) (r_d_divisors : rr32 d_divisors) (r_d_divisorsSize : r32 d_divisorsSize) (Q : Int → (Int → Int) → Prop) (hF : FQ X 0 0 (po_X0_canMake X.cI X.cJ hX0 aX0_divisors aX0_reachable aX0_fewest aX0_takes aX0_chosen d_divisorsSize d_size d_askedP d_askedQ d_factor d_divisors Q)) : ∀ (d_reachable : Int → Int) (k0 : Int), rr64 d_reachable → r32 k0 → wp_X0_canMake_118 Q d_divisors d_divisorsSize d_reachable k0 → Wat X 0 0 118 [] [.int (i32 k0)] [(hX0, .inr (0, [.ref aX0_divisors, .ref aX0_reachable, .ref aX0_fewest, .ref aX0_takes, .ref aX0_chosen, .int (i32 d_divisorsSize), .int (i32 d_size), .int (i32 d_askedP), .int (i32 d_askedQ), .int (i32 d_factor)])), (aX0_divisors, aI X.cI 48 d_divisors), (aX0_reachable, aL X.cJ 79 d_reachable)] := by
  intro d_reachable k0 r_d_reachable r_k0 h
  rw [wp_X0_canMake_118] at h
  obtain ⟨z118, h⟩ := h
  exact q_zret g hF z118 ⟨k0, d_reachable, rfl, rfl, r_k0, r_d_reachable, h⟩ dX0_canMake_118
def wp_X0_canMake_68 (Q : Int → (Int → Int) → Prop) (d_divisors : Int → Int) (d_divisorsSize : Int) : Nat → (Int → Int) → Int → Int → Int → Prop
  | 0, _, _, _, _ => False
  | n + 1, d_reachable, l1, l3, l4 => ((d_divisorsSize ≤ l4 → (0 ≤ l3 ∧ l3 < 79 ∧ (((land64 (ushr64 (d_reachable l3) (l1.tmod 64)) 1) = 0 → wp_X0_canMake_118 Q d_divisors d_divisorsSize d_reachable 0) ∧
  (¬ ((land64 (ushr64 (d_reachable l3) (l1.tmod 64)) 1) = 0) → wp_X0_canMake_118 Q d_divisors d_divisorsSize d_reachable 1)))) ∧
  (¬ (d_divisorsSize ≤ l4) → (0 ≤ l4 ∧ l4 < 48 ∧ wp_X0_addShifted (fun (d_reachable_86 : Int → Int) => (r32 (l4 + 1) ∧ wp_X0_canMake_68 Q d_divisors d_divisorsSize n d_reachable_86 l1 l3 (l4 + 1))) d_reachable (d_divisors l4) l3)))
set_option maxHeartbeats 4000000 in
set_option maxRecDepth 100000 in
theorem s_X0_canMake_68 {X : Cx} (g : Gd X cX0_canMake RX0 (some .boolean) 5) (hR : X.R = rmL 2 0 0) (hX0 : Nat) (aX0_divisors : Nat) (aX0_reachable : Nat) (aX0_fewest : Nat) (aX0_takes : Nat) (aX0_chosen : Nat) (d_size : Int) (d_askedP : Int) (d_askedQ : Int) (d_factor : Int) (d_divisors : Int → Int) (d_divisorsSize : Int) (r_d_divisors : rr32 d_divisors) (r_d_divisorsSize : r32 d_divisorsSize) (Q : Int → (Int → Int) → Prop) (hF : FQ X 0 0 (po_X0_canMake X.cI X.cJ hX0 aX0_divisors aX0_reachable aX0_fewest aX0_takes aX0_chosen d_divisorsSize d_size d_askedP d_askedQ d_factor d_divisors Q)) : ∀ (n : Nat) (d_reachable : Int → Int) (l1 : Int) (l3 : Int) (l4 : Int), rr64 d_reachable → r32 l1 → r32 l3 → r32 l4 → wp_X0_canMake_68 Q d_divisors d_divisorsSize n d_reachable l1 l3 l4 → Wat X 0 0 68 [(0, .ref hX0), (1, .int (i32 l1)), (3, .int (i32 l3)), (4, .int (i32 l4))] [] [(hX0, .inr (0, [.ref aX0_divisors, .ref aX0_reachable, .ref aX0_fewest, .ref aX0_takes, .ref aX0_chosen, .int (i32 d_divisorsSize), .int (i32 d_size), .int (i32 d_askedP), .int (i32 d_askedQ), .int (i32 d_factor)])), (aX0_divisors, aI X.cI 48 d_divisors), (aX0_reachable, aL X.cJ 79 d_reachable)] := by
  intro n
  induction n with
  | zero => intro d_reachable l1 l3 l4 r_d_reachable r_l1 r_l3 r_l4 h; exact False.elim h
  | succ n ih =>
    intro d_reachable l1 l3 l4 r_d_reachable r_l1 r_l3 r_l4 h
    rw [wp_X0_canMake_68] at h
    refine q_iload g 4 3 rfl dX0_canMake_68 ?_
    refine q_aload_n g 0 0 rfl dX0_canMake_70 ?_
    refine q_get (C := RX0) (T := TX0) (N := 10) g 57 inX0 0 5 rfl rfl (by decide) wF_X0_57 rfl dX0_canMake_71 ?_
    refine q_icmp_ge g (21) 95 r_l4 r_d_divisorsSize (by decide) dX0_canMake_74 (fun b74 => ?_) (fun b74 => ?_)
    · replace h := h.1 b74
      refine q_aload_n g 0 0 rfl dX0_canMake_95 ?_
      refine q_get (C := RX0) (T := TX0) (N := 10) g 15 inX0 0 1 rfl rfl (by decide) wF_X0_15 rfl dX0_canMake_96 ?_
      refine q_iload_n g 3 2 rfl dX0_canMake_99 ?_
      obtain ⟨c100, h⟩ := h
      obtain ⟨e100, h⟩ := h
      refine q_lald g 2 rfl c100 e100 (by decide) dX0_canMake_100 ?_
      refine q_iload_n g 1 1 rfl dX0_canMake_101 ?_
      refine q_bipush g (64) (by decide) (by decide) dX0_canMake_102 ?_
      refine q_irem g r_l1 (r32_lit _ (by decide)) (ne_of_pos (by decide)) dX0_canMake_104 ?_
      refine q_lushr g dX0_canMake_105 ?_
      refine q_lconst g 1 1 rfl dX0_canMake_106 ?_
      refine q_land g dX0_canMake_107 ?_
      refine q_lconst g 0 0 rfl dX0_canMake_108 ?_
      refine q_lcmp_eq g (7) 117 (r_land64 _ _) (r64_lit _ (by decide)) (by decide) dX0_canMake_109 dX0_canMake_110 (fun b109 => ?_) (fun b109 => ?_)
      · replace h := h.1 b109
        refine q_iconst g (0) dX0_canMake_117 ?_
        refine q_lv (lv' := []) [] rfl ?_
        exact s_X0_canMake_118 g hR hX0 aX0_divisors aX0_reachable aX0_fewest aX0_takes aX0_chosen d_size d_askedP d_askedQ d_factor d_divisors d_divisorsSize r_d_divisors r_d_divisorsSize Q hF d_reachable 0 r_d_reachable (r32_lit _ (by decide)) h
      replace h := h.2 b109
      refine q_iconst g (1) dX0_canMake_113 ?_
      refine q_goto g (4) 118 (by decide) dX0_canMake_114 ?_
      refine q_lv (lv' := []) [] rfl ?_
      exact s_X0_canMake_118 g hR hX0 aX0_divisors aX0_reachable aX0_fewest aX0_takes aX0_chosen d_size d_askedP d_askedQ d_factor d_divisors d_divisorsSize r_d_divisors r_d_divisorsSize Q hF d_reachable 1 r_d_reachable (r32_lit _ (by decide)) h
    replace h := h.2 b74
    refine q_aload_n g 0 0 rfl dX0_canMake_77 ?_
    refine q_aload_n g 0 0 rfl dX0_canMake_78 ?_
    refine q_get (C := RX0) (T := TX0) (N := 10) g 11 inX0 0 0 rfl rfl (by decide) wF_X0_11 rfl dX0_canMake_79 ?_
    refine q_iload g 4 3 rfl dX0_canMake_82 ?_
    obtain ⟨c84, h⟩ := h
    obtain ⟨e84, h⟩ := h
    refine q_iald g 1 rfl c84 e84 (by decide) dX0_canMake_84 ?_
    refine q_iload_n g 3 2 rfl dX0_canMake_85 ?_
    refine q_callV (lev := 1) (mc := 0) (ms := 0) g 69 (c_X0_addShifted X.l X.D X.cI X.cJ X.zt hX0 aX0_divisors aX0_reachable aX0_fewest aX0_takes aX0_chosen d_divisorsSize d_size d_askedP d_askedQ d_factor d_reachable (d_divisors l4) l3 _ r_d_reachable (r_d_divisors _) r_l3 h) (wr := [(aX0_divisors, aI X.cI 48 d_divisors)]) [0, 2] [1] rfl rfl rfl (by decide) (by decide) (by decide) (ci := 0) rfl rfl rfl wM_X0_69 wI_X0_addShifted wS_X0_addShifted wZ_X0 wC_X0_addShifted 2 rfl (by decide +kernel) (by rw [hR]; exact ⟨by show 1 + 1 ≤ 2; omega, by show 8 + (8 + 11) + 100 * 1 ≤ 100 * 2; omega⟩) (by rw [hR]; exact ⟨Nat.le_refl _, Nat.le_refl _⟩) (Nat.le_of_ble_eq_true rfl) rfl dX0_canMake_86 (fun rv w1 hq => ?_)
    obtain ⟨d_reachable_86, rfl, rfl, rd_reachable_86, h⟩ := hq
    refine q_ws (ws' := [(hX0, .inr (0, [.ref aX0_divisors, .ref aX0_reachable, .ref aX0_fewest, .ref aX0_takes, .ref aX0_chosen, .int (i32 d_divisorsSize), .int (i32 d_size), .int (i32 d_askedP), .int (i32 d_askedQ), .int (i32 d_factor)])), (aX0_divisors, aI X.cI 48 d_divisors), (aX0_reachable, aL X.cJ 79 d_reachable_86)]) [1, 0, 2] (by decide) rfl rfl ?_
    show Wat X 0 0 89 [(0, .ref hX0), (1, .int (i32 l1)), (3, .int (i32 l3)), (4, .int (i32 l4))] [] [(hX0, .inr (0, [.ref aX0_divisors, .ref aX0_reachable, .ref aX0_fewest, .ref aX0_takes, .ref aX0_chosen, .int (i32 d_divisorsSize), .int (i32 d_size), .int (i32 d_askedP), .int (i32 d_askedQ), .int (i32 d_factor)])), (aX0_divisors, aI X.cI 48 d_divisors), (aX0_reachable, aL X.cJ 79 d_reachable_86)]
    obtain ⟨c89, h⟩ := h
    refine q_iinc (lv' := [(4, .int (i32 (l4 + 1))), (0, .ref hX0), (1, .int (i32 l1)), (3, .int (i32 l3))]) g 4 3 1 (by decide) rfl rfl dX0_canMake_89 ?_
    refine q_goto g (-24) 68 (by decide) dX0_canMake_92 ?_
    refine q_lv (lv' := [(0, .ref hX0), (1, .int (i32 l1)), (3, .int (i32 l3)), (4, .int (i32 (l4 + 1)))]) [1, 2, 3, 0] rfl ?_
    exact ih d_reachable_86 l1 l3 (l4 + 1) rd_reachable_86 r_l1 r_l3 c89 h
def wp_X0_canMake_4 (Q : Int → (Int → Int) → Prop) (d_divisors : Int → Int) (d_divisorsSize : Int) : Nat → (Int → Int) → Int → Int → Int → Prop
  | 0, _, _, _, _ => False
  | n + 1, d_reachable, l1, l2, l3 => ((d_divisorsSize ≤ l3 → ((l2 < l1 → wp_X0_canMake_43 Q d_divisors d_divisorsSize d_reachable) ∧
  (¬ (l2 < l1) → ((l1 < 0 → wp_X0_canMake_43 Q d_divisors d_divisorsSize d_reachable) ∧
  (¬ (l1 < 0) → ((l1 ≤ 5000 → (∀ x49 : Int, x49 = (l1.tdiv 64) → wp_J7_fill_d0a16 (fun (d_reachable_55 : Int → Int) => (∃ n0 : Nat, wp_X0_canMake_68 Q d_divisors d_divisorsSize n0 (ups d_reachable_55 0 1) l1 x49 0)) 79 d_reachable 0)) ∧
  (¬ (l1 ≤ 5000) → wp_X0_canMake_43 Q d_divisors d_divisorsSize d_reachable))))))) ∧
  (¬ (d_divisorsSize ≤ l3) → (0 ≤ l3 ∧ l3 < 48 ∧ r32 (l2 + (d_divisors l3)) ∧ ∀ x20 : Int, x20 = (l2 + (d_divisors l3)) → r32 (l3 + 1) ∧ wp_X0_canMake_4 Q d_divisors d_divisorsSize n d_reachable l1 x20 (l3 + 1))))
set_option maxHeartbeats 4000000 in
set_option maxRecDepth 100000 in
theorem s_X0_canMake_4 {X : Cx} (g : Gd X cX0_canMake RX0 (some .boolean) 5) (hR : X.R = rmL 2 0 0) (hX0 : Nat) (aX0_divisors : Nat) (aX0_reachable : Nat) (aX0_fewest : Nat) (aX0_takes : Nat) (aX0_chosen : Nat) (d_size : Int) (d_askedP : Int) (d_askedQ : Int) (d_factor : Int) (d_divisors : Int → Int) (d_divisorsSize : Int) (r_d_divisors : rr32 d_divisors) (r_d_divisorsSize : r32 d_divisorsSize) (Q : Int → (Int → Int) → Prop) (hF : FQ X 0 0 (po_X0_canMake X.cI X.cJ hX0 aX0_divisors aX0_reachable aX0_fewest aX0_takes aX0_chosen d_divisorsSize d_size d_askedP d_askedQ d_factor d_divisors Q)) : ∀ (n : Nat) (d_reachable : Int → Int) (l1 : Int) (l2 : Int) (l3 : Int), rr64 d_reachable → r32 l1 → r32 l2 → r32 l3 → wp_X0_canMake_4 Q d_divisors d_divisorsSize n d_reachable l1 l2 l3 → Wat X 0 0 4 [(0, .ref hX0), (1, .int (i32 l1)), (2, .int (i32 l2)), (3, .int (i32 l3))] [] [(hX0, .inr (0, [.ref aX0_divisors, .ref aX0_reachable, .ref aX0_fewest, .ref aX0_takes, .ref aX0_chosen, .int (i32 d_divisorsSize), .int (i32 d_size), .int (i32 d_askedP), .int (i32 d_askedQ), .int (i32 d_factor)])), (aX0_divisors, aI X.cI 48 d_divisors), (aX0_reachable, aL X.cJ 79 d_reachable)] := by
  intro n
  induction n with
  | zero => intro d_reachable l1 l2 l3 r_d_reachable r_l1 r_l2 r_l3 h; exact False.elim h
  | succ n ih =>
    intro d_reachable l1 l2 l3 r_d_reachable r_l1 r_l2 r_l3 h
    rw [wp_X0_canMake_4] at h
    refine q_iload_n g 3 3 rfl dX0_canMake_4 ?_
    refine q_aload_n g 0 0 rfl dX0_canMake_5 ?_
    refine q_get (C := RX0) (T := TX0) (N := 10) g 57 inX0 0 5 rfl rfl (by decide) wF_X0_57 rfl dX0_canMake_6 ?_
    refine q_icmp_ge g (18) 27 r_l3 r_d_divisorsSize (by decide) dX0_canMake_9 (fun b9 => ?_) (fun b9 => ?_)
    · replace h := h.1 b9
      refine q_iload_n g 2 2 rfl dX0_canMake_27 ?_
      refine q_iload_n g 1 1 rfl dX0_canMake_28 ?_
      refine q_icmp_lt g (14) 43 r_l2 r_l1 (by decide) dX0_canMake_29 (fun b29 => ?_) (fun b29 => ?_)
      · replace h := h.1 b29
        refine q_lv (lv' := []) [] rfl ?_
        exact s_X0_canMake_43 g hR hX0 aX0_divisors aX0_reachable aX0_fewest aX0_takes aX0_chosen d_size d_askedP d_askedQ d_factor d_divisors d_divisorsSize r_d_divisors r_d_divisorsSize Q hF d_reachable r_d_reachable h
      replace h := h.2 b29
      refine q_iload_n g 1 1 rfl dX0_canMake_32 ?_
      refine q_if_lt g (10) 43 r_l1 (by decide) dX0_canMake_33 (fun b33 => ?_) (fun b33 => ?_)
      · replace h := h.1 b33
        refine q_lv (lv' := []) [] rfl ?_
        exact s_X0_canMake_43 g hR hX0 aX0_divisors aX0_reachable aX0_fewest aX0_takes aX0_chosen d_size d_askedP d_askedQ d_factor d_divisors d_divisorsSize r_d_divisors r_d_divisorsSize Q hF d_reachable r_d_reachable h
      replace h := h.2 b33
      refine q_iload_n g 1 1 rfl dX0_canMake_36 ?_
      refine q_sipush g (5000) (by decide) (by decide) dX0_canMake_37 ?_
      refine q_icmp_le g (5) 45 r_l1 (r32_lit _ (by decide)) (by decide) dX0_canMake_40 (fun b40 => ?_) (fun b40 => ?_)
      · replace h := h.1 b40
        refine q_iload_n g 1 1 rfl dX0_canMake_45 ?_
        refine q_bipush g (64) (by decide) (by decide) dX0_canMake_46 ?_
        refine q_idiv g r_l1 (r32_lit _ (by decide)) (ne_of_pos (by decide)) dX0_canMake_48 ?_
        refine q_topi (r32_tdiv r_l1 (by decide)) (fun x49 ex49 rx49 => ?_)
        replace h := h x49 ex49
        refine q_istore_n (lv' := [(3, .int (i32 x49)), (0, .ref hX0), (1, .int (i32 l1)), (2, .int (i32 l2))]) g 3 3 rfl (by decide) rfl dX0_canMake_49 ?_
        refine q_aload_n g 0 1 rfl dX0_canMake_50 ?_
        refine q_get (C := RX0) (T := TX0) (N := 10) g 15 inX0 0 1 rfl rfl (by decide) wF_X0_15 rfl dX0_canMake_51 ?_
        refine q_lconst g 0 0 rfl dX0_canMake_54 ?_
        refine q_callS (lev := 1) (mc := 0) (ms := 0) (As := [.ref aX0_reachable, .long (i64 0)]) g 63 (c_J7_fill_d0a16 X.l X.D X.cI X.cJ X.zt aX0_reachable 79 d_reachable 0 _ r_d_reachable (r64_lit _ (by decide)) (by decide) h) (wr := [(hX0, .inr (0, [.ref aX0_divisors, .ref aX0_reachable, .ref aX0_fewest, .ref aX0_takes, .ref aX0_chosen, .int (i32 d_divisorsSize), .int (i32 d_size), .int (i32 d_askedP), .int (i32 d_askedQ), .int (i32 d_factor)])), (aX0_divisors, aI X.cI 48 d_divisors)]) [2] [0, 1] rfl rfl rfl (by decide) (by decide) (by decide) wM_X0_63 wT_J7_fill_d0a16 wZ_J7 wC_J7_fill_d0a16 2 rfl (by decide +kernel) (by rw [hR]; exact ⟨by show 1 + 1 ≤ 2; omega, by show 8 + (5 + 11) + 100 * 1 ≤ 100 * 2; omega⟩) (by rw [hR]; exact ⟨Nat.le_refl _, Nat.le_refl _⟩) (Nat.le_of_ble_eq_true rfl) rfl dX0_canMake_55 (fun rv w1 hq => ?_)
        obtain ⟨d_reachable_55, rfl, rfl, rd_reachable_55, h⟩ := hq
        show Wat X 0 0 58 [(3, .int (i32 x49)), (0, .ref hX0), (1, .int (i32 l1)), (2, .int (i32 l2))] [] [(hX0, .inr (0, [.ref aX0_divisors, .ref aX0_reachable, .ref aX0_fewest, .ref aX0_takes, .ref aX0_chosen, .int (i32 d_divisorsSize), .int (i32 d_size), .int (i32 d_askedP), .int (i32 d_askedQ), .int (i32 d_factor)])), (aX0_divisors, aI X.cI 48 d_divisors), (aX0_reachable, aL X.cJ 79 d_reachable_55)]
        refine q_aload_n g 0 1 rfl dX0_canMake_58 ?_
        refine q_get (C := RX0) (T := TX0) (N := 10) g 15 inX0 0 1 rfl rfl (by decide) wF_X0_15 rfl dX0_canMake_59 ?_
        refine q_iconst g (0) dX0_canMake_62 ?_
        refine q_lconst g 1 1 rfl dX0_canMake_63 ?_
        refine q_last (ws' := [(hX0, .inr (0, [.ref aX0_divisors, .ref aX0_reachable, .ref aX0_fewest, .ref aX0_takes, .ref aX0_chosen, .int (i32 d_divisorsSize), .int (i32 d_size), .int (i32 d_askedP), .int (i32 d_askedQ), .int (i32 d_factor)])), (aX0_divisors, aI X.cI 48 d_divisors), (aX0_reachable, aL X.cJ 79 (ups d_reachable_55 0 1))]) g 2 rfl (by decide) (by decide) (by decide) rfl dX0_canMake_64 ?_
        refine q_iconst g (0) dX0_canMake_65 ?_
        refine q_istore (lv' := [(4, .int (i32 0)), (3, .int (i32 x49)), (0, .ref hX0), (1, .int (i32 l1)), (2, .int (i32 l2))]) g 4   (by decide) rfl dX0_canMake_66 ?_
        refine q_lv (lv' := [(0, .ref hX0), (1, .int (i32 l1)), (3, .int (i32 x49)), (4, .int (i32 0))]) [2, 3, 1, 0] rfl ?_
        obtain ⟨n0, h⟩ := h
        exact s_X0_canMake_68 g hR hX0 aX0_divisors aX0_reachable aX0_fewest aX0_takes aX0_chosen d_size d_askedP d_askedQ d_factor d_divisors d_divisorsSize r_d_divisors r_d_divisorsSize Q hF n0 (ups d_reachable_55 0 1) l1 x49 0 (rr64_u rd_reachable_55 (r64_lit _ (by decide))) r_l1 rx49 (r32_lit _ (by decide)) h
      replace h := h.2 b40
      refine q_lv (lv' := []) [] rfl ?_
      exact s_X0_canMake_43 g hR hX0 aX0_divisors aX0_reachable aX0_fewest aX0_takes aX0_chosen d_size d_askedP d_askedQ d_factor d_divisors d_divisorsSize r_d_divisors r_d_divisorsSize Q hF d_reachable r_d_reachable h
    replace h := h.2 b9
    refine q_iload_n g 2 2 rfl dX0_canMake_12 ?_
    refine q_aload_n g 0 0 rfl dX0_canMake_13 ?_
    refine q_get (C := RX0) (T := TX0) (N := 10) g 11 inX0 0 0 rfl rfl (by decide) wF_X0_11 rfl dX0_canMake_14 ?_
    refine q_iload_n g 3 3 rfl dX0_canMake_17 ?_
    obtain ⟨c18, h⟩ := h
    obtain ⟨e18, h⟩ := h
    refine q_iald g 1 rfl c18 e18 (by decide) dX0_canMake_18 ?_
    obtain ⟨c19, h⟩ := h
    refine q_iadd g dX0_canMake_19 ?_
    refine q_topi c19 (fun x20 ex20 rx20 => ?_)
    replace h := h x20 ex20
    refine q_istore_n (lv' := [(2, .int (i32 x20)), (0, .ref hX0), (1, .int (i32 l1)), (3, .int (i32 l3))]) g 2 2 rfl (by decide) rfl dX0_canMake_20 ?_
    obtain ⟨c21, h⟩ := h
    refine q_iinc (lv' := [(3, .int (i32 (l3 + 1))), (2, .int (i32 x20)), (0, .ref hX0), (1, .int (i32 l1))]) g 3 3 1 (by decide) rfl rfl dX0_canMake_21 ?_
    refine q_goto g (-20) 4 (by decide) dX0_canMake_24 ?_
    refine q_lv (lv' := [(0, .ref hX0), (1, .int (i32 l1)), (2, .int (i32 x20)), (3, .int (i32 (l3 + 1)))]) [2, 3, 1, 0] rfl ?_
    exact ih d_reachable l1 x20 (l3 + 1) r_d_reachable r_l1 rx20 c21 h
def wp_X0_canMake (Q : Int → (Int → Int) → Prop) (d_divisors : Int → Int) (d_reachable : Int → Int) (d_divisorsSize : Int) (l1 : Int) : Prop := (∃ n0 : Nat, wp_X0_canMake_4 Q d_divisors d_divisorsSize n0 d_reachable l1 0 0)
set_option maxHeartbeats 4000000 in
set_option maxRecDepth 100000 in
theorem c_X0_canMake (l : Launch) (D : va_G) (cI cJ : ClassId) (zt : Nat) (hX0 : Nat) (aX0_divisors : Nat) (aX0_reachable : Nat) (aX0_fewest : Nat) (aX0_takes : Nat) (aX0_chosen : Nat) (d_divisorsSize : Int) (d_size : Int) (d_askedP : Int) (d_askedQ : Int) (d_factor : Int) (d_divisors : Int → Int) (d_reachable : Int → Int) (l1 : Int) (Q : Int → (Int → Int) → Prop) (r_d_divisors : rr32 d_divisors) (r_d_reachable : rr64 d_reachable) (r_d_divisorsSize : r32 d_divisorsSize) (r_l1 : r32 l1) (h : wp_X0_canMake Q d_divisors d_reachable d_divisorsSize l1) : Ct l D cI cJ zt yX0_canMake cX0_canMake 5 (some .boolean) 2 0 0 [.ref hX0, .int (i32 l1)] [(hX0, .inr (0, [.ref aX0_divisors, .ref aX0_reachable, .ref aX0_fewest, .ref aX0_takes, .ref aX0_chosen, .int (i32 d_divisorsSize), .int (i32 d_size), .int (i32 d_askedP), .int (i32 d_askedQ), .int (i32 d_factor)])), (aX0_divisors, aI cI 48 d_divisors), (aX0_reachable, aL cJ 79 d_reachable)] (po_X0_canMake cI cJ hX0 aX0_divisors aX0_reachable aX0_fewest aX0_takes aX0_chosen d_divisorsSize d_size d_askedP d_askedQ d_factor d_divisors Q) := by
  refine ct_of (by decide +kernel) (Nat.le_of_ble_eq_true rfl) (fun X hl hDD hcI hcJ hzt hR hF hnm g => ?_)
  subst hl; subst hDD; subst hcI; subst hcJ; subst hzt
  show Wat X 0 0 0 [(0, .ref hX0), (1, .int (i32 l1))] [] [(hX0, .inr (0, [.ref aX0_divisors, .ref aX0_reachable, .ref aX0_fewest, .ref aX0_takes, .ref aX0_chosen, .int (i32 d_divisorsSize), .int (i32 d_size), .int (i32 d_askedP), .int (i32 d_askedQ), .int (i32 d_factor)])), (aX0_divisors, aI X.cI 48 d_divisors), (aX0_reachable, aL X.cJ 79 d_reachable)]
  replace g : Gd X cX0_canMake RX0 (some .boolean) 5 := g
  rw [wp_X0_canMake] at h
  refine q_iconst g (0) dX0_canMake_0 ?_
  refine q_istore_n (lv' := [(2, .int (i32 0)), (0, .ref hX0), (1, .int (i32 l1))]) g 2 2 rfl (by decide) rfl dX0_canMake_1 ?_
  refine q_iconst g (0) dX0_canMake_2 ?_
  refine q_istore_n (lv' := [(3, .int (i32 0)), (2, .int (i32 0)), (0, .ref hX0), (1, .int (i32 l1))]) g 3 3 rfl (by decide) rfl dX0_canMake_3 ?_
  refine q_lv (lv' := [(0, .ref hX0), (1, .int (i32 l1)), (2, .int (i32 0)), (3, .int (i32 0))]) [2, 3, 1, 0] rfl ?_
  obtain ⟨n0, h⟩ := h
  exact s_X0_canMake_4 g hR hX0 aX0_divisors aX0_reachable aX0_fewest aX0_takes aX0_chosen d_size d_askedP d_askedQ d_factor d_divisors d_divisorsSize r_d_divisors r_d_divisorsSize Q hF n0 d_reachable l1 0 0 r_d_reachable r_l1 (r32_lit _ (by decide)) (r32_lit _ (by decide)) h
theorem dX0_readChosen_0 : decode cX0_readChosen 0 = .ok (.iload_n 1, 1) := by decide +kernel
theorem dX0_readChosen_1 : decode cX0_readChosen 1 = .ok (.istore_n 2, 1) := by decide +kernel
theorem dX0_readChosen_2 : decode cX0_readChosen 2 = .ok (.aload_n 0, 1) := by decide +kernel
theorem dX0_readChosen_3 : decode cX0_readChosen 3 = .ok (.getfield 57, 3) := by decide +kernel
theorem dX0_readChosen_6 : decode cX0_readChosen 6 = .ok (.iconst 1, 1) := by decide +kernel
theorem dX0_readChosen_7 : decode cX0_readChosen 7 = .ok (.isub, 1) := by decide +kernel
theorem dX0_readChosen_8 : decode cX0_readChosen 8 = .ok (.istore_n 3, 1) := by decide +kernel
theorem dX0_readChosen_9 : decode cX0_readChosen 9 = .ok (.iload_n 3, 1) := by decide +kernel
theorem dX0_readChosen_10 : decode cX0_readChosen 10 = .ok (.ifCond .lt 62, 3) := by decide +kernel
theorem dX0_readChosen_13 : decode cX0_readChosen 13 = .ok (.iload_n 2, 1) := by decide +kernel
theorem dX0_readChosen_14 : decode cX0_readChosen 14 = .ok (.ifCond .le 58, 3) := by decide +kernel
theorem dX0_readChosen_17 : decode cX0_readChosen 17 = .ok (.aload_n 0, 1) := by decide +kernel
theorem dX0_readChosen_18 : decode cX0_readChosen 18 = .ok (.getfield 22, 3) := by decide +kernel
theorem dX0_readChosen_21 : decode cX0_readChosen 21 = .ok (.iload_n 2, 1) := by decide +kernel
theorem dX0_readChosen_22 : decode cX0_readChosen 22 = .ok (.laload, 1) := by decide +kernel
theorem dX0_readChosen_23 : decode cX0_readChosen 23 = .ok (.iload_n 3, 1) := by decide +kernel
theorem dX0_readChosen_24 : decode cX0_readChosen 24 = .ok (.lushr, 1) := by decide +kernel
theorem dX0_readChosen_25 : decode cX0_readChosen 25 = .ok (.lconst 1, 1) := by decide +kernel
theorem dX0_readChosen_26 : decode cX0_readChosen 26 = .ok (.land, 1) := by decide +kernel
theorem dX0_readChosen_27 : decode cX0_readChosen 27 = .ok (.lconst 0, 1) := by decide +kernel
theorem dX0_readChosen_28 : decode cX0_readChosen 28 = .ok (.lcmp, 1) := by decide +kernel
theorem dX0_readChosen_29 : decode cX0_readChosen 29 = .ok (.ifCond .eq 37, 3) := by decide +kernel
theorem dX0_readChosen_32 : decode cX0_readChosen 32 = .ok (.aload_n 0, 1) := by decide +kernel
theorem dX0_readChosen_33 : decode cX0_readChosen 33 = .ok (.getfield 25, 3) := by decide +kernel
theorem dX0_readChosen_36 : decode cX0_readChosen 36 = .ok (.aload_n 0, 1) := by decide +kernel
theorem dX0_readChosen_37 : decode cX0_readChosen 37 = .ok (.getfield 35, 3) := by decide +kernel
theorem dX0_readChosen_40 : decode cX0_readChosen 40 = .ok (.aload_n 0, 1) := by decide +kernel
theorem dX0_readChosen_41 : decode cX0_readChosen 41 = .ok (.getfield 11, 3) := by decide +kernel
theorem dX0_readChosen_44 : decode cX0_readChosen 44 = .ok (.iload_n 3, 1) := by decide +kernel
theorem dX0_readChosen_45 : decode cX0_readChosen 45 = .ok (.iaload, 1) := by decide +kernel
theorem dX0_readChosen_46 : decode cX0_readChosen 46 = .ok (.iastore, 1) := by decide +kernel
theorem dX0_readChosen_47 : decode cX0_readChosen 47 = .ok (.aload_n 0, 1) := by decide +kernel
theorem dX0_readChosen_48 : decode cX0_readChosen 48 = .ok (.dup, 1) := by decide +kernel
theorem dX0_readChosen_49 : decode cX0_readChosen 49 = .ok (.getfield 35, 3) := by decide +kernel
theorem dX0_readChosen_52 : decode cX0_readChosen 52 = .ok (.iconst 1, 1) := by decide +kernel
theorem dX0_readChosen_53 : decode cX0_readChosen 53 = .ok (.iadd, 1) := by decide +kernel
theorem dX0_readChosen_54 : decode cX0_readChosen 54 = .ok (.putfield 35, 3) := by decide +kernel
theorem dX0_readChosen_57 : decode cX0_readChosen 57 = .ok (.iload_n 2, 1) := by decide +kernel
theorem dX0_readChosen_58 : decode cX0_readChosen 58 = .ok (.aload_n 0, 1) := by decide +kernel
theorem dX0_readChosen_59 : decode cX0_readChosen 59 = .ok (.getfield 11, 3) := by decide +kernel
theorem dX0_readChosen_62 : decode cX0_readChosen 62 = .ok (.iload_n 3, 1) := by decide +kernel
theorem dX0_readChosen_63 : decode cX0_readChosen 63 = .ok (.iaload, 1) := by decide +kernel
theorem dX0_readChosen_64 : decode cX0_readChosen 64 = .ok (.isub, 1) := by decide +kernel
theorem dX0_readChosen_65 : decode cX0_readChosen 65 = .ok (.istore_n 2, 1) := by decide +kernel
theorem dX0_readChosen_66 : decode cX0_readChosen 66 = .ok (.iinc 3 (-1), 3) := by decide +kernel
theorem dX0_readChosen_69 : decode cX0_readChosen 69 = .ok (.goto (-60), 3) := by decide +kernel
theorem dX0_readChosen_72 : decode cX0_readChosen 72 = .ok (.return_, 1) := by decide +kernel
abbrev po_X0_readChosen (cI cJ : ClassId) (hX0 : Nat) (aX0_divisors : Nat) (aX0_reachable : Nat) (aX0_fewest : Nat) (aX0_takes : Nat) (aX0_chosen : Nat) (d_divisorsSize : Int) (d_askedP : Int) (d_askedQ : Int) (d_factor : Int) (d_divisors : Int → Int) (d_takes : Int → Int) (Q : (Int → Int) → Int → Prop) : Option Value → va_W → Prop := fun rv w1 => ∃ (d_chosen : Int → Int) (d_size : Int), rv = none ∧ w1 = [(hX0, .inr (0, [.ref aX0_divisors, .ref aX0_reachable, .ref aX0_fewest, .ref aX0_takes, .ref aX0_chosen, .int (i32 d_divisorsSize), .int (i32 d_size), .int (i32 d_askedP), .int (i32 d_askedQ), .int (i32 d_factor)])), (aX0_divisors, aI cI 48 d_divisors), (aX0_takes, aL cJ 5001 d_takes), (aX0_chosen, aI cI 48 d_chosen)] ∧ rr32 d_chosen ∧ r32 d_size ∧ Q d_chosen d_size
def wp_X0_readChosen_66 (Q : (Int → Int) → Int → Prop) (d_divisors : Int → Int) (d_takes : Int → Int) (d_divisorsSize : Int) (K_9 : (Int → Int) → Int → Int → Int → Prop) (d_chosen : Int → Int) (d_size : Int) (l2 : Int) (l3 : Int) : Prop := (r32 (l3 + (-1)) ∧ K_9 d_chosen d_size l2 (l3 + (-1)))
set_option maxHeartbeats 4000000 in
set_option maxRecDepth 100000 in
theorem s_X0_readChosen_66 {X : Cx} (g : Gd X cX0_readChosen RX0 none 4) (hR : X.R = rmL 1 0 0) (hX0 : Nat) (aX0_divisors : Nat) (aX0_reachable : Nat) (aX0_fewest : Nat) (aX0_takes : Nat) (aX0_chosen : Nat) (d_askedP : Int) (d_askedQ : Int) (d_factor : Int) (d_divisors : Int → Int) (d_takes : Int → Int) (d_divisorsSize : Int) (r_d_divisors : rr32 d_divisors) (r_d_takes : rr64 d_takes) (r_d_divisorsSize : r32 d_divisorsSize) (Q : (Int → Int) → Int → Prop) (hF : FQ X 0 0 (po_X0_readChosen X.cI X.cJ hX0 aX0_divisors aX0_reachable aX0_fewest aX0_takes aX0_chosen d_divisorsSize d_askedP d_askedQ d_factor d_divisors d_takes Q)) (K_9 : (Int → Int) → Int → Int → Int → Prop) (hK_9 : ∀ (d_chosen : Int → Int) (d_size : Int) (l2 : Int) (l3 : Int), rr32 d_chosen → r32 d_size → r32 l2 → r32 l3 → K_9 d_chosen d_size l2 l3 → Wat X 0 0 9 [(0, .ref hX0), (2, .int (i32 l2)), (3, .int (i32 l3))] [] [(hX0, .inr (0, [.ref aX0_divisors, .ref aX0_reachable, .ref aX0_fewest, .ref aX0_takes, .ref aX0_chosen, .int (i32 d_divisorsSize), .int (i32 d_size), .int (i32 d_askedP), .int (i32 d_askedQ), .int (i32 d_factor)])), (aX0_divisors, aI X.cI 48 d_divisors), (aX0_takes, aL X.cJ 5001 d_takes), (aX0_chosen, aI X.cI 48 d_chosen)]) : ∀ (d_chosen : Int → Int) (d_size : Int) (l2 : Int) (l3 : Int), rr32 d_chosen → r32 d_size → r32 l2 → r32 l3 → wp_X0_readChosen_66 Q d_divisors d_takes d_divisorsSize K_9 d_chosen d_size l2 l3 → Wat X 0 0 66 [(0, .ref hX0), (2, .int (i32 l2)), (3, .int (i32 l3))] [] [(hX0, .inr (0, [.ref aX0_divisors, .ref aX0_reachable, .ref aX0_fewest, .ref aX0_takes, .ref aX0_chosen, .int (i32 d_divisorsSize), .int (i32 d_size), .int (i32 d_askedP), .int (i32 d_askedQ), .int (i32 d_factor)])), (aX0_divisors, aI X.cI 48 d_divisors), (aX0_takes, aL X.cJ 5001 d_takes), (aX0_chosen, aI X.cI 48 d_chosen)] := by
  intro d_chosen d_size l2 l3 r_d_chosen r_d_size r_l2 r_l3 h
  rw [wp_X0_readChosen_66] at h
  obtain ⟨c66, h⟩ := h
  refine q_iinc (lv' := [(3, .int (i32 (l3 + (-1)))), (0, .ref hX0), (2, .int (i32 l2))]) g 3 2 (-1) (by decide) rfl rfl dX0_readChosen_66 ?_
  refine q_goto g (-60) 9 (by decide) dX0_readChosen_69 ?_
  refine q_lv (lv' := [(0, .ref hX0), (2, .int (i32 l2)), (3, .int (i32 (l3 + (-1))))]) [1, 2, 0] rfl ?_
  exact hK_9 d_chosen d_size l2 (l3 + (-1)) r_d_chosen r_d_size r_l2 c66 h
def wp_X0_readChosen_72 (Q : (Int → Int) → Int → Prop) (d_divisors : Int → Int) (d_takes : Int → Int) (d_divisorsSize : Int) (d_chosen : Int → Int) (d_size : Int) : Prop := Q d_chosen d_size
set_option maxHeartbeats 4000000 in
set_option maxRecDepth 100000 in
theorem s_X0_readChosen_72 {X : Cx} (g : Gd X cX0_readChosen RX0 none 4) (hR : X.R = rmL 1 0 0) (hX0 : Nat) (aX0_divisors : Nat) (aX0_reachable : Nat) (aX0_fewest : Nat) (aX0_takes : Nat) (aX0_chosen : Nat) (d_askedP : Int) (d_askedQ : Int) (d_factor : Int) (d_divisors : Int → Int) (d_takes : Int → Int) (d_divisorsSize : Int) (r_d_divisors : rr32 d_divisors) (r_d_takes : rr64 d_takes) (r_d_divisorsSize : r32 d_divisorsSize) (Q : (Int → Int) → Int → Prop) (hF : FQ X 0 0 (po_X0_readChosen X.cI X.cJ hX0 aX0_divisors aX0_reachable aX0_fewest aX0_takes aX0_chosen d_divisorsSize d_askedP d_askedQ d_factor d_divisors d_takes Q)) : ∀ (d_chosen : Int → Int) (d_size : Int), rr32 d_chosen → r32 d_size → wp_X0_readChosen_72 Q d_divisors d_takes d_divisorsSize d_chosen d_size → Wat X 0 0 72 [] [] [(hX0, .inr (0, [.ref aX0_divisors, .ref aX0_reachable, .ref aX0_fewest, .ref aX0_takes, .ref aX0_chosen, .int (i32 d_divisorsSize), .int (i32 d_size), .int (i32 d_askedP), .int (i32 d_askedQ), .int (i32 d_factor)])), (aX0_divisors, aI X.cI 48 d_divisors), (aX0_takes, aL X.cJ 5001 d_takes), (aX0_chosen, aI X.cI 48 d_chosen)] := by
  intro d_chosen d_size r_d_chosen r_d_size h
  rw [wp_X0_readChosen_72] at h
  exact q_vret g hF ⟨d_chosen, d_size, rfl, rfl, r_d_chosen, r_d_size, h⟩ dX0_readChosen_72
def wp_X0_readChosen_9 (Q : (Int → Int) → Int → Prop) (d_divisors : Int → Int) (d_takes : Int → Int) (d_divisorsSize : Int) : Nat → (Int → Int) → Int → Int → Int → Prop
  | 0, _, _, _, _ => False
  | n + 1, d_chosen, d_size, l2, l3 => ((l3 < 0 → wp_X0_readChosen_72 Q d_divisors d_takes d_divisorsSize d_chosen d_size) ∧
  (¬ (l3 < 0) → ((l2 ≤ 0 → wp_X0_readChosen_72 Q d_divisors d_takes d_divisorsSize d_chosen d_size) ∧
  (¬ (l2 ≤ 0) → (0 ≤ l2 ∧ l2 < 5001 ∧ (((land64 (ushr64 (d_takes l2) l3) 1) = 0 → wp_X0_readChosen_66 Q d_divisors d_takes d_divisorsSize (wp_X0_readChosen_9 Q d_divisors d_takes d_divisorsSize n) d_chosen d_size l2 l3) ∧
  (¬ ((land64 (ushr64 (d_takes l2) l3) 1) = 0) → (0 ≤ l3 ∧ l3 < 48 ∧ ∀ x46 : Int, x46 = (d_divisors l3) → 0 ≤ d_size ∧ d_size < 48 ∧ r32 (d_size + 1) ∧ ∀ x54 : Int, x54 = (d_size + 1) → 0 ≤ l3 ∧ l3 < 48 ∧ r32 (l2 - (d_divisors l3)) ∧ ∀ x65 : Int, x65 = (l2 - (d_divisors l3)) → wp_X0_readChosen_66 Q d_divisors d_takes d_divisorsSize (wp_X0_readChosen_9 Q d_divisors d_takes d_divisorsSize n) (ups d_chosen d_size x46) x54 x65 l3))))))))
set_option maxHeartbeats 4000000 in
set_option maxRecDepth 100000 in
theorem s_X0_readChosen_9 {X : Cx} (g : Gd X cX0_readChosen RX0 none 4) (hR : X.R = rmL 1 0 0) (hX0 : Nat) (aX0_divisors : Nat) (aX0_reachable : Nat) (aX0_fewest : Nat) (aX0_takes : Nat) (aX0_chosen : Nat) (d_askedP : Int) (d_askedQ : Int) (d_factor : Int) (d_divisors : Int → Int) (d_takes : Int → Int) (d_divisorsSize : Int) (r_d_divisors : rr32 d_divisors) (r_d_takes : rr64 d_takes) (r_d_divisorsSize : r32 d_divisorsSize) (Q : (Int → Int) → Int → Prop) (hF : FQ X 0 0 (po_X0_readChosen X.cI X.cJ hX0 aX0_divisors aX0_reachable aX0_fewest aX0_takes aX0_chosen d_divisorsSize d_askedP d_askedQ d_factor d_divisors d_takes Q)) : ∀ (n : Nat) (d_chosen : Int → Int) (d_size : Int) (l2 : Int) (l3 : Int), rr32 d_chosen → r32 d_size → r32 l2 → r32 l3 → wp_X0_readChosen_9 Q d_divisors d_takes d_divisorsSize n d_chosen d_size l2 l3 → Wat X 0 0 9 [(0, .ref hX0), (2, .int (i32 l2)), (3, .int (i32 l3))] [] [(hX0, .inr (0, [.ref aX0_divisors, .ref aX0_reachable, .ref aX0_fewest, .ref aX0_takes, .ref aX0_chosen, .int (i32 d_divisorsSize), .int (i32 d_size), .int (i32 d_askedP), .int (i32 d_askedQ), .int (i32 d_factor)])), (aX0_divisors, aI X.cI 48 d_divisors), (aX0_takes, aL X.cJ 5001 d_takes), (aX0_chosen, aI X.cI 48 d_chosen)] := by
  intro n
  induction n with
  | zero => intro d_chosen d_size l2 l3 r_d_chosen r_d_size r_l2 r_l3 h; exact False.elim h
  | succ n ih =>
    intro d_chosen d_size l2 l3 r_d_chosen r_d_size r_l2 r_l3 h
    rw [wp_X0_readChosen_9] at h
    refine q_iload_n g 3 2 rfl dX0_readChosen_9 ?_
    refine q_if_lt g (62) 72 r_l3 (by decide) dX0_readChosen_10 (fun b10 => ?_) (fun b10 => ?_)
    · replace h := h.1 b10
      refine q_lv (lv' := []) [] rfl ?_
      exact s_X0_readChosen_72 g hR hX0 aX0_divisors aX0_reachable aX0_fewest aX0_takes aX0_chosen d_askedP d_askedQ d_factor d_divisors d_takes d_divisorsSize r_d_divisors r_d_takes r_d_divisorsSize Q hF d_chosen d_size r_d_chosen r_d_size h
    replace h := h.2 b10
    refine q_iload_n g 2 1 rfl dX0_readChosen_13 ?_
    refine q_if_le g (58) 72 r_l2 (by decide) dX0_readChosen_14 (fun b14 => ?_) (fun b14 => ?_)
    · replace h := h.1 b14
      refine q_lv (lv' := []) [] rfl ?_
      exact s_X0_readChosen_72 g hR hX0 aX0_divisors aX0_reachable aX0_fewest aX0_takes aX0_chosen d_askedP d_askedQ d_factor d_divisors d_takes d_divisorsSize r_d_divisors r_d_takes r_d_divisorsSize Q hF d_chosen d_size r_d_chosen r_d_size h
    replace h := h.2 b14
    refine q_aload_n g 0 0 rfl dX0_readChosen_17 ?_
    refine q_get (C := RX0) (T := TX0) (N := 10) g 22 inX0 0 3 rfl rfl (by decide) wF_X0_22 rfl dX0_readChosen_18 ?_
    refine q_iload_n g 2 1 rfl dX0_readChosen_21 ?_
    obtain ⟨c22, h⟩ := h
    obtain ⟨e22, h⟩ := h
    refine q_lald g 2 rfl c22 e22 (by decide) dX0_readChosen_22 ?_
    refine q_iload_n g 3 2 rfl dX0_readChosen_23 ?_
    refine q_lushr g dX0_readChosen_24 ?_
    refine q_lconst g 1 1 rfl dX0_readChosen_25 ?_
    refine q_land g dX0_readChosen_26 ?_
    refine q_lconst g 0 0 rfl dX0_readChosen_27 ?_
    refine q_lcmp_eq g (37) 66 (r_land64 _ _) (r64_lit _ (by decide)) (by decide) dX0_readChosen_28 dX0_readChosen_29 (fun b28 => ?_) (fun b28 => ?_)
    · replace h := h.1 b28
      exact s_X0_readChosen_66 g hR hX0 aX0_divisors aX0_reachable aX0_fewest aX0_takes aX0_chosen d_askedP d_askedQ d_factor d_divisors d_takes d_divisorsSize r_d_divisors r_d_takes r_d_divisorsSize Q hF (wp_X0_readChosen_9 Q d_divisors d_takes d_divisorsSize n) (fun v0 v1 v2 v3 w0 w1 w2 w3 hh => ih v0 v1 v2 v3 w0 w1 w2 w3 hh) d_chosen d_size l2 l3 r_d_chosen r_d_size r_l2 r_l3 h
    replace h := h.2 b28
    refine q_aload_n g 0 0 rfl dX0_readChosen_32 ?_
    refine q_get (C := RX0) (T := TX0) (N := 10) g 25 inX0 0 4 rfl rfl (by decide) wF_X0_25 rfl dX0_readChosen_33 ?_
    refine q_aload_n g 0 0 rfl dX0_readChosen_36 ?_
    refine q_get (C := RX0) (T := TX0) (N := 10) g 35 inX0 0 6 rfl rfl (by decide) wF_X0_35 rfl dX0_readChosen_37 ?_
    refine q_aload_n g 0 0 rfl dX0_readChosen_40 ?_
    refine q_get (C := RX0) (T := TX0) (N := 10) g 11 inX0 0 0 rfl rfl (by decide) wF_X0_11 rfl dX0_readChosen_41 ?_
    refine q_iload_n g 3 2 rfl dX0_readChosen_44 ?_
    obtain ⟨c45, h⟩ := h
    obtain ⟨e45, h⟩ := h
    refine q_iald g 1 rfl c45 e45 (by decide) dX0_readChosen_45 ?_
    refine q_topi (r_d_divisors _) (fun x46 ex46 rx46 => ?_)
    replace h := h x46 ex46
    obtain ⟨c46, h⟩ := h
    obtain ⟨e46, h⟩ := h
    refine q_iast (ws' := [(hX0, .inr (0, [.ref aX0_divisors, .ref aX0_reachable, .ref aX0_fewest, .ref aX0_takes, .ref aX0_chosen, .int (i32 d_divisorsSize), .int (i32 d_size), .int (i32 d_askedP), .int (i32 d_askedQ), .int (i32 d_factor)])), (aX0_divisors, aI X.cI 48 d_divisors), (aX0_takes, aL X.cJ 5001 d_takes), (aX0_chosen, aI X.cI 48 (ups d_chosen d_size x46))]) g 3 rfl c46 e46 (by decide) rfl dX0_readChosen_46 ?_
    refine q_aload_n g 0 0 rfl dX0_readChosen_47 ?_
    refine q_dup g rfl dX0_readChosen_48 ?_
    refine q_get (C := RX0) (T := TX0) (N := 10) g 35 inX0 0 6 rfl rfl (by decide) wF_X0_35 rfl dX0_readChosen_49 ?_
    refine q_iconst g (1) dX0_readChosen_52 ?_
    obtain ⟨c53, h⟩ := h
    refine q_iadd g dX0_readChosen_53 ?_
    refine q_topi c53 (fun x54 ex54 rx54 => ?_)
    replace h := h x54 ex54
    refine q_put (C := RX0) (T := TX0) (N := 10) (ty := .int) (ws' := [(hX0, .inr (0, [.ref aX0_divisors, .ref aX0_reachable, .ref aX0_fewest, .ref aX0_takes, .ref aX0_chosen, .int (i32 d_divisorsSize), .int (i32 x54), .int (i32 d_askedP), .int (i32 d_askedQ), .int (i32 d_factor)])), (aX0_divisors, aI X.cI 48 d_divisors), (aX0_takes, aL X.cJ 5001 d_takes), (aX0_chosen, aI X.cI 48 (ups d_chosen d_size x46))]) g 35 inX0 tyX0_ok nmX0 0 6 rfl rfl (by decide) wF_X0_35 rfl rfl rfl rfl (Nat.le_of_ble_eq_true rfl) rfl dX0_readChosen_54 ?_
    refine q_iload_n g 2 1 rfl dX0_readChosen_57 ?_
    refine q_aload_n g 0 0 rfl dX0_readChosen_58 ?_
    refine q_get (C := RX0) (T := TX0) (N := 10) g 11 inX0 0 0 rfl rfl (by decide) wF_X0_11 rfl dX0_readChosen_59 ?_
    refine q_iload_n g 3 2 rfl dX0_readChosen_62 ?_
    obtain ⟨c63, h⟩ := h
    obtain ⟨e63, h⟩ := h
    refine q_iald g 1 rfl c63 e63 (by decide) dX0_readChosen_63 ?_
    obtain ⟨c64, h⟩ := h
    refine q_isub g dX0_readChosen_64 ?_
    refine q_topi c64 (fun x65 ex65 rx65 => ?_)
    replace h := h x65 ex65
    refine q_istore_n (lv' := [(2, .int (i32 x65)), (0, .ref hX0), (3, .int (i32 l3))]) g 2 2 rfl (by decide) rfl dX0_readChosen_65 ?_
    refine q_lv (lv' := [(0, .ref hX0), (2, .int (i32 x65)), (3, .int (i32 l3))]) [1, 0, 2] rfl ?_
    exact s_X0_readChosen_66 g hR hX0 aX0_divisors aX0_reachable aX0_fewest aX0_takes aX0_chosen d_askedP d_askedQ d_factor d_divisors d_takes d_divisorsSize r_d_divisors r_d_takes r_d_divisorsSize Q hF (wp_X0_readChosen_9 Q d_divisors d_takes d_divisorsSize n) (fun v0 v1 v2 v3 w0 w1 w2 w3 hh => ih v0 v1 v2 v3 w0 w1 w2 w3 hh) (ups d_chosen d_size x46) x54 x65 l3 (rr32_u r_d_chosen rx46) rx54 rx65 r_l3 h
def wp_X0_readChosen (Q : (Int → Int) → Int → Prop) (d_divisors : Int → Int) (d_takes : Int → Int) (d_chosen : Int → Int) (d_divisorsSize : Int) (d_size : Int) (l1 : Int) : Prop := (r32 (d_divisorsSize - 1) ∧ ∀ x8 : Int, x8 = (d_divisorsSize - 1) → (∃ n0 : Nat, wp_X0_readChosen_9 Q d_divisors d_takes d_divisorsSize n0 d_chosen d_size l1 x8))
set_option maxHeartbeats 4000000 in
set_option maxRecDepth 100000 in
theorem c_X0_readChosen (l : Launch) (D : va_G) (cI cJ : ClassId) (zt : Nat) (hX0 : Nat) (aX0_divisors : Nat) (aX0_reachable : Nat) (aX0_fewest : Nat) (aX0_takes : Nat) (aX0_chosen : Nat) (d_divisorsSize : Int) (d_size : Int) (d_askedP : Int) (d_askedQ : Int) (d_factor : Int) (d_divisors : Int → Int) (d_takes : Int → Int) (d_chosen : Int → Int) (l1 : Int) (Q : (Int → Int) → Int → Prop) (r_d_divisors : rr32 d_divisors) (r_d_takes : rr64 d_takes) (r_d_chosen : rr32 d_chosen) (r_d_divisorsSize : r32 d_divisorsSize) (r_d_size : r32 d_size) (r_l1 : r32 l1) (h : wp_X0_readChosen Q d_divisors d_takes d_chosen d_divisorsSize d_size l1) : Ct l D cI cJ zt yX0_readChosen cX0_readChosen 4 none 1 0 0 [.ref hX0, .int (i32 l1)] [(hX0, .inr (0, [.ref aX0_divisors, .ref aX0_reachable, .ref aX0_fewest, .ref aX0_takes, .ref aX0_chosen, .int (i32 d_divisorsSize), .int (i32 d_size), .int (i32 d_askedP), .int (i32 d_askedQ), .int (i32 d_factor)])), (aX0_divisors, aI cI 48 d_divisors), (aX0_takes, aL cJ 5001 d_takes), (aX0_chosen, aI cI 48 d_chosen)] (po_X0_readChosen cI cJ hX0 aX0_divisors aX0_reachable aX0_fewest aX0_takes aX0_chosen d_divisorsSize d_askedP d_askedQ d_factor d_divisors d_takes Q) := by
  refine ct_of (by decide +kernel) (Nat.le_of_ble_eq_true rfl) (fun X hl hDD hcI hcJ hzt hR hF hnm g => ?_)
  subst hl; subst hDD; subst hcI; subst hcJ; subst hzt
  show Wat X 0 0 0 [(0, .ref hX0), (1, .int (i32 l1))] [] [(hX0, .inr (0, [.ref aX0_divisors, .ref aX0_reachable, .ref aX0_fewest, .ref aX0_takes, .ref aX0_chosen, .int (i32 d_divisorsSize), .int (i32 d_size), .int (i32 d_askedP), .int (i32 d_askedQ), .int (i32 d_factor)])), (aX0_divisors, aI X.cI 48 d_divisors), (aX0_takes, aL X.cJ 5001 d_takes), (aX0_chosen, aI X.cI 48 d_chosen)]
  replace g : Gd X cX0_readChosen RX0 none 4 := g
  rw [wp_X0_readChosen] at h
  refine q_iload_n g 1 1 rfl dX0_readChosen_0 ?_
  refine q_istore_n (lv' := [(2, .int (i32 l1)), (0, .ref hX0), (1, .int (i32 l1))]) g 2 2 rfl (by decide) rfl dX0_readChosen_1 ?_
  refine q_aload_n g 0 1 rfl dX0_readChosen_2 ?_
  refine q_get (C := RX0) (T := TX0) (N := 10) g 57 inX0 0 5 rfl rfl (by decide) wF_X0_57 rfl dX0_readChosen_3 ?_
  refine q_iconst g (1) dX0_readChosen_6 ?_
  obtain ⟨c7, h⟩ := h
  refine q_isub g dX0_readChosen_7 ?_
  refine q_topi c7 (fun x8 ex8 rx8 => ?_)
  replace h := h x8 ex8
  refine q_istore_n (lv' := [(3, .int (i32 x8)), (2, .int (i32 l1)), (0, .ref hX0), (1, .int (i32 l1))]) g 3 3 rfl (by decide) rfl dX0_readChosen_8 ?_
  refine q_lv (lv' := [(0, .ref hX0), (2, .int (i32 l1)), (3, .int (i32 x8))]) [2, 1, 0] rfl ?_
  obtain ⟨n0, h⟩ := h
  exact s_X0_readChosen_9 g hR hX0 aX0_divisors aX0_reachable aX0_fewest aX0_takes aX0_chosen d_askedP d_askedQ d_factor d_divisors d_takes d_divisorsSize r_d_divisors r_d_takes r_d_divisorsSize Q hF n0 d_chosen d_size l1 x8 r_d_chosen r_d_size r_l1 rx8 h
theorem dX0_choose_0 : decode cX0_choose 0 = .ok (.aload_n 0, 1) := by decide +kernel
theorem dX0_choose_1 : decode cX0_choose 1 = .ok (.getfield 19, 3) := by decide +kernel
theorem dX0_choose_4 : decode cX0_choose 4 = .ok (.sipush 1000, 3) := by decide +kernel
theorem dX0_choose_7 : decode cX0_choose 7 = .ok (.invokestatic 72, 3) := by decide +kernel
theorem dX0_choose_10 : decode cX0_choose 10 = .ok (.aload_n 0, 1) := by decide +kernel
theorem dX0_choose_11 : decode cX0_choose 11 = .ok (.getfield 22, 3) := by decide +kernel
theorem dX0_choose_14 : decode cX0_choose 14 = .ok (.lconst 0, 1) := by decide +kernel
theorem dX0_choose_15 : decode cX0_choose 15 = .ok (.invokestatic 63, 3) := by decide +kernel
theorem dX0_choose_18 : decode cX0_choose 18 = .ok (.aload_n 0, 1) := by decide +kernel
theorem dX0_choose_19 : decode cX0_choose 19 = .ok (.getfield 19, 3) := by decide +kernel
theorem dX0_choose_22 : decode cX0_choose 22 = .ok (.iconst 0, 1) := by decide +kernel
theorem dX0_choose_23 : decode cX0_choose 23 = .ok (.iconst 0, 1) := by decide +kernel
theorem dX0_choose_24 : decode cX0_choose 24 = .ok (.iastore, 1) := by decide +kernel
theorem dX0_choose_25 : decode cX0_choose 25 = .ok (.iconst 0, 1) := by decide +kernel
theorem dX0_choose_26 : decode cX0_choose 26 = .ok (.istore_n 2, 1) := by decide +kernel
theorem dX0_choose_27 : decode cX0_choose 27 = .ok (.iload_n 2, 1) := by decide +kernel
theorem dX0_choose_28 : decode cX0_choose 28 = .ok (.aload_n 0, 1) := by decide +kernel
theorem dX0_choose_29 : decode cX0_choose 29 = .ok (.getfield 57, 3) := by decide +kernel
theorem dX0_choose_32 : decode cX0_choose 32 = .ok (.if_icmp .ge 86, 3) := by decide +kernel
theorem dX0_choose_35 : decode cX0_choose 35 = .ok (.aload_n 0, 1) := by decide +kernel
theorem dX0_choose_36 : decode cX0_choose 36 = .ok (.getfield 11, 3) := by decide +kernel
theorem dX0_choose_39 : decode cX0_choose 39 = .ok (.iload_n 2, 1) := by decide +kernel
theorem dX0_choose_40 : decode cX0_choose 40 = .ok (.iaload, 1) := by decide +kernel
theorem dX0_choose_41 : decode cX0_choose 41 = .ok (.istore_n 3, 1) := by decide +kernel
theorem dX0_choose_42 : decode cX0_choose 42 = .ok (.iload_n 1, 1) := by decide +kernel
theorem dX0_choose_43 : decode cX0_choose 43 = .ok (.istore 4, 2) := by decide +kernel
theorem dX0_choose_45 : decode cX0_choose 45 = .ok (.iload 4, 2) := by decide +kernel
theorem dX0_choose_47 : decode cX0_choose 47 = .ok (.iload_n 3, 1) := by decide +kernel
theorem dX0_choose_48 : decode cX0_choose 48 = .ok (.if_icmp .lt 64, 3) := by decide +kernel
theorem dX0_choose_51 : decode cX0_choose 51 = .ok (.aload_n 0, 1) := by decide +kernel
theorem dX0_choose_52 : decode cX0_choose 52 = .ok (.getfield 19, 3) := by decide +kernel
theorem dX0_choose_55 : decode cX0_choose 55 = .ok (.iload 4, 2) := by decide +kernel
theorem dX0_choose_57 : decode cX0_choose 57 = .ok (.iload_n 3, 1) := by decide +kernel
theorem dX0_choose_58 : decode cX0_choose 58 = .ok (.isub, 1) := by decide +kernel
theorem dX0_choose_59 : decode cX0_choose 59 = .ok (.iaload, 1) := by decide +kernel
theorem dX0_choose_60 : decode cX0_choose 60 = .ok (.iconst 1, 1) := by decide +kernel
theorem dX0_choose_61 : decode cX0_choose 61 = .ok (.iadd, 1) := by decide +kernel
theorem dX0_choose_62 : decode cX0_choose 62 = .ok (.istore 5, 2) := by decide +kernel
theorem dX0_choose_64 : decode cX0_choose 64 = .ok (.iload 5, 2) := by decide +kernel
theorem dX0_choose_66 : decode cX0_choose 66 = .ok (.aload_n 0, 1) := by decide +kernel
theorem dX0_choose_67 : decode cX0_choose 67 = .ok (.getfield 19, 3) := by decide +kernel
theorem dX0_choose_70 : decode cX0_choose 70 = .ok (.iload 4, 2) := by decide +kernel
theorem dX0_choose_72 : decode cX0_choose 72 = .ok (.iaload, 1) := by decide +kernel
theorem dX0_choose_73 : decode cX0_choose 73 = .ok (.if_icmp .gt 33, 3) := by decide +kernel
theorem dX0_choose_76 : decode cX0_choose 76 = .ok (.iload 5, 2) := by decide +kernel
theorem dX0_choose_78 : decode cX0_choose 78 = .ok (.sipush 1000, 3) := by decide +kernel
theorem dX0_choose_81 : decode cX0_choose 81 = .ok (.if_icmp .ge 25, 3) := by decide +kernel
theorem dX0_choose_84 : decode cX0_choose 84 = .ok (.aload_n 0, 1) := by decide +kernel
theorem dX0_choose_85 : decode cX0_choose 85 = .ok (.getfield 19, 3) := by decide +kernel
theorem dX0_choose_88 : decode cX0_choose 88 = .ok (.iload 4, 2) := by decide +kernel
theorem dX0_choose_90 : decode cX0_choose 90 = .ok (.iload 5, 2) := by decide +kernel
theorem dX0_choose_92 : decode cX0_choose 92 = .ok (.iastore, 1) := by decide +kernel
theorem dX0_choose_93 : decode cX0_choose 93 = .ok (.aload_n 0, 1) := by decide +kernel
theorem dX0_choose_94 : decode cX0_choose 94 = .ok (.getfield 22, 3) := by decide +kernel
theorem dX0_choose_97 : decode cX0_choose 97 = .ok (.iload 4, 2) := by decide +kernel
theorem dX0_choose_99 : decode cX0_choose 99 = .ok (.dup2, 1) := by decide +kernel
theorem dX0_choose_100 : decode cX0_choose 100 = .ok (.laload, 1) := by decide +kernel
theorem dX0_choose_101 : decode cX0_choose 101 = .ok (.lconst 1, 1) := by decide +kernel
theorem dX0_choose_102 : decode cX0_choose 102 = .ok (.iload_n 2, 1) := by decide +kernel
theorem dX0_choose_103 : decode cX0_choose 103 = .ok (.lshl, 1) := by decide +kernel
theorem dX0_choose_104 : decode cX0_choose 104 = .ok (.lor, 1) := by decide +kernel
theorem dX0_choose_105 : decode cX0_choose 105 = .ok (.lastore, 1) := by decide +kernel
theorem dX0_choose_106 : decode cX0_choose 106 = .ok (.iinc 4 (-1), 3) := by decide +kernel
theorem dX0_choose_109 : decode cX0_choose 109 = .ok (.goto (-64), 3) := by decide +kernel
theorem dX0_choose_112 : decode cX0_choose 112 = .ok (.iinc 2 1, 3) := by decide +kernel
theorem dX0_choose_115 : decode cX0_choose 115 = .ok (.goto (-88), 3) := by decide +kernel
theorem dX0_choose_118 : decode cX0_choose 118 = .ok (.aload_n 0, 1) := by decide +kernel
theorem dX0_choose_119 : decode cX0_choose 119 = .ok (.iload_n 1, 1) := by decide +kernel
theorem dX0_choose_120 : decode cX0_choose 120 = .ok (.invokevirtual 75, 3) := by decide +kernel
theorem dX0_choose_123 : decode cX0_choose 123 = .ok (.return_, 1) := by decide +kernel
abbrev po_X0_choose (cI cJ : ClassId) (hX0 : Nat) (aX0_divisors : Nat) (aX0_reachable : Nat) (aX0_fewest : Nat) (aX0_takes : Nat) (aX0_chosen : Nat) (d_divisorsSize : Int) (d_askedP : Int) (d_askedQ : Int) (d_factor : Int) (d_divisors : Int → Int) (Q : (Int → Int) → (Int → Int) → (Int → Int) → Int → Prop) : Option Value → va_W → Prop := fun rv w1 => ∃ (d_fewest : Int → Int) (d_takes : Int → Int) (d_chosen : Int → Int) (d_size : Int), rv = none ∧ w1 = [(hX0, .inr (0, [.ref aX0_divisors, .ref aX0_reachable, .ref aX0_fewest, .ref aX0_takes, .ref aX0_chosen, .int (i32 d_divisorsSize), .int (i32 d_size), .int (i32 d_askedP), .int (i32 d_askedQ), .int (i32 d_factor)])), (aX0_divisors, aI cI 48 d_divisors), (aX0_fewest, aI cI 5001 d_fewest), (aX0_takes, aL cJ 5001 d_takes), (aX0_chosen, aI cI 48 d_chosen)] ∧ rr32 d_fewest ∧ rr64 d_takes ∧ rr32 d_chosen ∧ r32 d_size ∧ Q d_fewest d_takes d_chosen d_size
def wp_X0_choose_106 (Q : (Int → Int) → (Int → Int) → (Int → Int) → Int → Prop) (d_divisors : Int → Int) (d_divisorsSize : Int) (K_27 : (Int → Int) → (Int → Int) → (Int → Int) → Int → Int → Int → Prop) (K_45 : (Int → Int) → (Int → Int) → (Int → Int) → Int → Int → Int → Int → Int → Prop) (d_fewest : Int → Int) (d_takes : Int → Int) (d_chosen : Int → Int) (d_size : Int) (l1 : Int) (l2 : Int) (l3 : Int) (l4 : Int) : Prop := (r32 (l4 + (-1)) ∧ K_45 d_fewest d_takes d_chosen d_size l1 l2 l3 (l4 + (-1)))
set_option maxHeartbeats 4000000 in
set_option maxRecDepth 100000 in
theorem s_X0_choose_106 {X : Cx} (g : Gd X cX0_choose RX0 none 6) (hR : X.R = rmL 2 0 0) (hX0 : Nat) (aX0_divisors : Nat) (aX0_reachable : Nat) (aX0_fewest : Nat) (aX0_takes : Nat) (aX0_chosen : Nat) (d_askedP : Int) (d_askedQ : Int) (d_factor : Int) (d_divisors : Int → Int) (d_divisorsSize : Int) (r_d_divisors : rr32 d_divisors) (r_d_divisorsSize : r32 d_divisorsSize) (Q : (Int → Int) → (Int → Int) → (Int → Int) → Int → Prop) (hF : FQ X 0 0 (po_X0_choose X.cI X.cJ hX0 aX0_divisors aX0_reachable aX0_fewest aX0_takes aX0_chosen d_divisorsSize d_askedP d_askedQ d_factor d_divisors Q)) (K_27 : (Int → Int) → (Int → Int) → (Int → Int) → Int → Int → Int → Prop) (hK_27 : ∀ (d_fewest : Int → Int) (d_takes : Int → Int) (d_chosen : Int → Int) (d_size : Int) (l1 : Int) (l2 : Int), rr32 d_fewest → rr64 d_takes → rr32 d_chosen → r32 d_size → r32 l1 → r32 l2 → K_27 d_fewest d_takes d_chosen d_size l1 l2 → Wat X 0 0 27 [(0, .ref hX0), (1, .int (i32 l1)), (2, .int (i32 l2))] [] [(hX0, .inr (0, [.ref aX0_divisors, .ref aX0_reachable, .ref aX0_fewest, .ref aX0_takes, .ref aX0_chosen, .int (i32 d_divisorsSize), .int (i32 d_size), .int (i32 d_askedP), .int (i32 d_askedQ), .int (i32 d_factor)])), (aX0_divisors, aI X.cI 48 d_divisors), (aX0_fewest, aI X.cI 5001 d_fewest), (aX0_takes, aL X.cJ 5001 d_takes), (aX0_chosen, aI X.cI 48 d_chosen)]) (K_45 : (Int → Int) → (Int → Int) → (Int → Int) → Int → Int → Int → Int → Int → Prop) (hK_45 : ∀ (d_fewest : Int → Int) (d_takes : Int → Int) (d_chosen : Int → Int) (d_size : Int) (l1 : Int) (l2 : Int) (l3 : Int) (l4 : Int), rr32 d_fewest → rr64 d_takes → rr32 d_chosen → r32 d_size → r32 l1 → r32 l2 → r32 l3 → r32 l4 → K_45 d_fewest d_takes d_chosen d_size l1 l2 l3 l4 → Wat X 0 0 45 [(0, .ref hX0), (1, .int (i32 l1)), (2, .int (i32 l2)), (3, .int (i32 l3)), (4, .int (i32 l4))] [] [(hX0, .inr (0, [.ref aX0_divisors, .ref aX0_reachable, .ref aX0_fewest, .ref aX0_takes, .ref aX0_chosen, .int (i32 d_divisorsSize), .int (i32 d_size), .int (i32 d_askedP), .int (i32 d_askedQ), .int (i32 d_factor)])), (aX0_divisors, aI X.cI 48 d_divisors), (aX0_fewest, aI X.cI 5001 d_fewest), (aX0_takes, aL X.cJ 5001 d_takes), (aX0_chosen, aI X.cI 48 d_chosen)]) : ∀ (d_fewest : Int → Int) (d_takes : Int → Int) (d_chosen : Int → Int) (d_size : Int) (l1 : Int) (l2 : Int) (l3 : Int) (l4 : Int), rr32 d_fewest → rr64 d_takes → rr32 d_chosen → r32 d_size → r32 l1 → r32 l2 → r32 l3 → r32 l4 → wp_X0_choose_106 Q d_divisors d_divisorsSize K_27 K_45 d_fewest d_takes d_chosen d_size l1 l2 l3 l4 → Wat X 0 0 106 [(0, .ref hX0), (1, .int (i32 l1)), (2, .int (i32 l2)), (3, .int (i32 l3)), (4, .int (i32 l4))] [] [(hX0, .inr (0, [.ref aX0_divisors, .ref aX0_reachable, .ref aX0_fewest, .ref aX0_takes, .ref aX0_chosen, .int (i32 d_divisorsSize), .int (i32 d_size), .int (i32 d_askedP), .int (i32 d_askedQ), .int (i32 d_factor)])), (aX0_divisors, aI X.cI 48 d_divisors), (aX0_fewest, aI X.cI 5001 d_fewest), (aX0_takes, aL X.cJ 5001 d_takes), (aX0_chosen, aI X.cI 48 d_chosen)] := by
  intro d_fewest d_takes d_chosen d_size l1 l2 l3 l4 r_d_fewest r_d_takes r_d_chosen r_d_size r_l1 r_l2 r_l3 r_l4 h
  rw [wp_X0_choose_106] at h
  obtain ⟨c106, h⟩ := h
  refine q_iinc (lv' := [(4, .int (i32 (l4 + (-1)))), (0, .ref hX0), (1, .int (i32 l1)), (2, .int (i32 l2)), (3, .int (i32 l3))]) g 4 4 (-1) (by decide) rfl rfl dX0_choose_106 ?_
  refine q_goto g (-64) 45 (by decide) dX0_choose_109 ?_
  refine q_lv (lv' := [(0, .ref hX0), (1, .int (i32 l1)), (2, .int (i32 l2)), (3, .int (i32 l3)), (4, .int (i32 (l4 + (-1))))]) [1, 2, 3, 4, 0] rfl ?_
  exact hK_45 d_fewest d_takes d_chosen d_size l1 l2 l3 (l4 + (-1)) r_d_fewest r_d_takes r_d_chosen r_d_size r_l1 r_l2 r_l3 c106 h
def wp_X0_choose_45 (Q : (Int → Int) → (Int → Int) → (Int → Int) → Int → Prop) (d_divisors : Int → Int) (d_divisorsSize : Int) (K_27 : (Int → Int) → (Int → Int) → (Int → Int) → Int → Int → Int → Prop) : Nat → (Int → Int) → (Int → Int) → (Int → Int) → Int → Int → Int → Int → Int → Prop
  | 0, _, _, _, _, _, _, _, _ => False
  | n + 1, d_fewest, d_takes, d_chosen, d_size, l1, l2, l3, l4 => ((l4 < l3 → (r32 (l2 + 1) ∧ K_27 d_fewest d_takes d_chosen d_size l1 (l2 + 1))) ∧
  (¬ (l4 < l3) → (r32 (l4 - l3) ∧ 0 ≤ (l4 - l3) ∧ (l4 - l3) < 5001 ∧ r32 ((d_fewest (l4 - l3)) + 1) ∧ ∀ x62 : Int, x62 = ((d_fewest (l4 - l3)) + 1) → 0 ≤ l4 ∧ l4 < 5001 ∧ (((d_fewest l4) < x62 → wp_X0_choose_106 Q d_divisors d_divisorsSize K_27 (wp_X0_choose_45 Q d_divisors d_divisorsSize K_27 n) d_fewest d_takes d_chosen d_size l1 l2 l3 l4) ∧
  (¬ ((d_fewest l4) < x62) → ((1000 ≤ x62 → wp_X0_choose_106 Q d_divisors d_divisorsSize K_27 (wp_X0_choose_45 Q d_divisors d_divisorsSize K_27 n) d_fewest d_takes d_chosen d_size l1 l2 l3 l4) ∧
  (¬ (1000 ≤ x62) → (0 ≤ l4 ∧ l4 < 5001 ∧ 0 ≤ l4 ∧ l4 < 5001 ∧ ∀ x105 : Int, x105 = (lor64 (d_takes l4) (shl64 1 l2)) → 0 ≤ l4 ∧ l4 < 5001 ∧ wp_X0_choose_106 Q d_divisors d_divisorsSize K_27 (wp_X0_choose_45 Q d_divisors d_divisorsSize K_27 n) (ups d_fewest l4 x62) (ups d_takes l4 x105) d_chosen d_size l1 l2 l3 l4))))))))
set_option maxHeartbeats 4000000 in
set_option maxRecDepth 100000 in
theorem s_X0_choose_45 {X : Cx} (g : Gd X cX0_choose RX0 none 6) (hR : X.R = rmL 2 0 0) (hX0 : Nat) (aX0_divisors : Nat) (aX0_reachable : Nat) (aX0_fewest : Nat) (aX0_takes : Nat) (aX0_chosen : Nat) (d_askedP : Int) (d_askedQ : Int) (d_factor : Int) (d_divisors : Int → Int) (d_divisorsSize : Int) (r_d_divisors : rr32 d_divisors) (r_d_divisorsSize : r32 d_divisorsSize) (Q : (Int → Int) → (Int → Int) → (Int → Int) → Int → Prop) (hF : FQ X 0 0 (po_X0_choose X.cI X.cJ hX0 aX0_divisors aX0_reachable aX0_fewest aX0_takes aX0_chosen d_divisorsSize d_askedP d_askedQ d_factor d_divisors Q)) (K_27 : (Int → Int) → (Int → Int) → (Int → Int) → Int → Int → Int → Prop) (hK_27 : ∀ (d_fewest : Int → Int) (d_takes : Int → Int) (d_chosen : Int → Int) (d_size : Int) (l1 : Int) (l2 : Int), rr32 d_fewest → rr64 d_takes → rr32 d_chosen → r32 d_size → r32 l1 → r32 l2 → K_27 d_fewest d_takes d_chosen d_size l1 l2 → Wat X 0 0 27 [(0, .ref hX0), (1, .int (i32 l1)), (2, .int (i32 l2))] [] [(hX0, .inr (0, [.ref aX0_divisors, .ref aX0_reachable, .ref aX0_fewest, .ref aX0_takes, .ref aX0_chosen, .int (i32 d_divisorsSize), .int (i32 d_size), .int (i32 d_askedP), .int (i32 d_askedQ), .int (i32 d_factor)])), (aX0_divisors, aI X.cI 48 d_divisors), (aX0_fewest, aI X.cI 5001 d_fewest), (aX0_takes, aL X.cJ 5001 d_takes), (aX0_chosen, aI X.cI 48 d_chosen)]) : ∀ (n : Nat) (d_fewest : Int → Int) (d_takes : Int → Int) (d_chosen : Int → Int) (d_size : Int) (l1 : Int) (l2 : Int) (l3 : Int) (l4 : Int), rr32 d_fewest → rr64 d_takes → rr32 d_chosen → r32 d_size → r32 l1 → r32 l2 → r32 l3 → r32 l4 → wp_X0_choose_45 Q d_divisors d_divisorsSize K_27 n d_fewest d_takes d_chosen d_size l1 l2 l3 l4 → Wat X 0 0 45 [(0, .ref hX0), (1, .int (i32 l1)), (2, .int (i32 l2)), (3, .int (i32 l3)), (4, .int (i32 l4))] [] [(hX0, .inr (0, [.ref aX0_divisors, .ref aX0_reachable, .ref aX0_fewest, .ref aX0_takes, .ref aX0_chosen, .int (i32 d_divisorsSize), .int (i32 d_size), .int (i32 d_askedP), .int (i32 d_askedQ), .int (i32 d_factor)])), (aX0_divisors, aI X.cI 48 d_divisors), (aX0_fewest, aI X.cI 5001 d_fewest), (aX0_takes, aL X.cJ 5001 d_takes), (aX0_chosen, aI X.cI 48 d_chosen)] := by
  intro n
  induction n with
  | zero => intro d_fewest d_takes d_chosen d_size l1 l2 l3 l4 r_d_fewest r_d_takes r_d_chosen r_d_size r_l1 r_l2 r_l3 r_l4 h; exact False.elim h
  | succ n ih =>
    intro d_fewest d_takes d_chosen d_size l1 l2 l3 l4 r_d_fewest r_d_takes r_d_chosen r_d_size r_l1 r_l2 r_l3 r_l4 h
    rw [wp_X0_choose_45] at h
    refine q_iload g 4 4 rfl dX0_choose_45 ?_
    refine q_iload_n g 3 3 rfl dX0_choose_47 ?_
    refine q_icmp_lt g (64) 112 r_l4 r_l3 (by decide) dX0_choose_48 (fun b48 => ?_) (fun b48 => ?_)
    · replace h := h.1 b48
      obtain ⟨c112, h⟩ := h
      refine q_iinc (lv' := [(2, .int (i32 (l2 + 1))), (0, .ref hX0), (1, .int (i32 l1)), (3, .int (i32 l3)), (4, .int (i32 l4))]) g 2 2 1 (by decide) rfl rfl dX0_choose_112 ?_
      refine q_goto g (-88) 27 (by decide) dX0_choose_115 ?_
      refine q_lv (lv' := [(0, .ref hX0), (1, .int (i32 l1)), (2, .int (i32 (l2 + 1)))]) [1, 2, 0] rfl ?_
      exact hK_27 d_fewest d_takes d_chosen d_size l1 (l2 + 1) r_d_fewest r_d_takes r_d_chosen r_d_size r_l1 c112 h
    replace h := h.2 b48
    refine q_aload_n g 0 0 rfl dX0_choose_51 ?_
    refine q_get (C := RX0) (T := TX0) (N := 10) g 19 inX0 0 2 rfl rfl (by decide) wF_X0_19 rfl dX0_choose_52 ?_
    refine q_iload g 4 4 rfl dX0_choose_55 ?_
    refine q_iload_n g 3 3 rfl dX0_choose_57 ?_
    obtain ⟨c58, h⟩ := h
    refine q_isub g dX0_choose_58 ?_
    obtain ⟨c59, h⟩ := h
    obtain ⟨e59, h⟩ := h
    refine q_iald g 2 rfl c59 e59 (by decide) dX0_choose_59 ?_
    refine q_iconst g (1) dX0_choose_60 ?_
    obtain ⟨c61, h⟩ := h
    refine q_iadd g dX0_choose_61 ?_
    refine q_topi c61 (fun x62 ex62 rx62 => ?_)
    replace h := h x62 ex62
    refine q_istore (lv' := [(5, .int (i32 x62)), (0, .ref hX0), (1, .int (i32 l1)), (2, .int (i32 l2)), (3, .int (i32 l3)), (4, .int (i32 l4))]) g 5   (by decide) rfl dX0_choose_62 ?_
    refine q_iload g 5 0 rfl dX0_choose_64 ?_
    refine q_aload_n g 0 1 rfl dX0_choose_66 ?_
    refine q_get (C := RX0) (T := TX0) (N := 10) g 19 inX0 0 2 rfl rfl (by decide) wF_X0_19 rfl dX0_choose_67 ?_
    refine q_iload g 4 5 rfl dX0_choose_70 ?_
    obtain ⟨c72, h⟩ := h
    obtain ⟨e72, h⟩ := h
    refine q_iald g 2 rfl c72 e72 (by decide) dX0_choose_72 ?_
    refine q_icmp_gt g (33) 106 rx62 (r_d_fewest _) (by decide) dX0_choose_73 (fun b73 => ?_) (fun b73 => ?_)
    · replace h := h.1 b73
      refine q_lv (lv' := [(0, .ref hX0), (1, .int (i32 l1)), (2, .int (i32 l2)), (3, .int (i32 l3)), (4, .int (i32 l4))]) [1, 2, 3, 4, 5] rfl ?_
      exact s_X0_choose_106 g hR hX0 aX0_divisors aX0_reachable aX0_fewest aX0_takes aX0_chosen d_askedP d_askedQ d_factor d_divisors d_divisorsSize r_d_divisors r_d_divisorsSize Q hF K_27 hK_27 (wp_X0_choose_45 Q d_divisors d_divisorsSize K_27 n) (fun v0 v1 v2 v3 v4 v5 v6 v7 w0 w1 w2 w3 w4 w5 w6 w7 hh => ih v0 v1 v2 v3 v4 v5 v6 v7 w0 w1 w2 w3 w4 w5 w6 w7 hh) d_fewest d_takes d_chosen d_size l1 l2 l3 l4 r_d_fewest r_d_takes r_d_chosen r_d_size r_l1 r_l2 r_l3 r_l4 h
    replace h := h.2 b73
    refine q_iload g 5 0 rfl dX0_choose_76 ?_
    refine q_sipush g (1000) (by decide) (by decide) dX0_choose_78 ?_
    refine q_icmp_ge g (25) 106 rx62 (r32_lit _ (by decide)) (by decide) dX0_choose_81 (fun b81 => ?_) (fun b81 => ?_)
    · replace h := h.1 b81
      refine q_lv (lv' := [(0, .ref hX0), (1, .int (i32 l1)), (2, .int (i32 l2)), (3, .int (i32 l3)), (4, .int (i32 l4))]) [1, 2, 3, 4, 5] rfl ?_
      exact s_X0_choose_106 g hR hX0 aX0_divisors aX0_reachable aX0_fewest aX0_takes aX0_chosen d_askedP d_askedQ d_factor d_divisors d_divisorsSize r_d_divisors r_d_divisorsSize Q hF K_27 hK_27 (wp_X0_choose_45 Q d_divisors d_divisorsSize K_27 n) (fun v0 v1 v2 v3 v4 v5 v6 v7 w0 w1 w2 w3 w4 w5 w6 w7 hh => ih v0 v1 v2 v3 v4 v5 v6 v7 w0 w1 w2 w3 w4 w5 w6 w7 hh) d_fewest d_takes d_chosen d_size l1 l2 l3 l4 r_d_fewest r_d_takes r_d_chosen r_d_size r_l1 r_l2 r_l3 r_l4 h
    replace h := h.2 b81
    refine q_aload_n g 0 1 rfl dX0_choose_84 ?_
    refine q_get (C := RX0) (T := TX0) (N := 10) g 19 inX0 0 2 rfl rfl (by decide) wF_X0_19 rfl dX0_choose_85 ?_
    refine q_iload g 4 5 rfl dX0_choose_88 ?_
    refine q_iload g 5 0 rfl dX0_choose_90 ?_
    obtain ⟨c92, h⟩ := h
    obtain ⟨e92, h⟩ := h
    refine q_iast (ws' := [(hX0, .inr (0, [.ref aX0_divisors, .ref aX0_reachable, .ref aX0_fewest, .ref aX0_takes, .ref aX0_chosen, .int (i32 d_divisorsSize), .int (i32 d_size), .int (i32 d_askedP), .int (i32 d_askedQ), .int (i32 d_factor)])), (aX0_divisors, aI X.cI 48 d_divisors), (aX0_fewest, aI X.cI 5001 (ups d_fewest l4 x62)), (aX0_takes, aL X.cJ 5001 d_takes), (aX0_chosen, aI X.cI 48 d_chosen)]) g 2 rfl c92 e92 (by decide) rfl dX0_choose_92 ?_
    refine q_aload_n g 0 1 rfl dX0_choose_93 ?_
    refine q_get (C := RX0) (T := TX0) (N := 10) g 22 inX0 0 3 rfl rfl (by decide) wF_X0_22 rfl dX0_choose_94 ?_
    refine q_iload g 4 5 rfl dX0_choose_97 ?_
    refine q_dup2 g rfl rfl dX0_choose_99 ?_
    obtain ⟨c100, h⟩ := h
    obtain ⟨e100, h⟩ := h
    refine q_lald g 3 rfl c100 e100 (by decide) dX0_choose_100 ?_
    refine q_lconst g 1 1 rfl dX0_choose_101 ?_
    refine q_iload_n g 2 3 rfl dX0_choose_102 ?_
    refine q_lshl g dX0_choose_103 ?_
    refine q_lor g dX0_choose_104 ?_
    refine q_topl (r_lor64 _ _) (fun x105 ex105 rx105 => ?_)
    replace h := h x105 ex105
    obtain ⟨c105, h⟩ := h
    obtain ⟨e105, h⟩ := h
    refine q_last (ws' := [(hX0, .inr (0, [.ref aX0_divisors, .ref aX0_reachable, .ref aX0_fewest, .ref aX0_takes, .ref aX0_chosen, .int (i32 d_divisorsSize), .int (i32 d_size), .int (i32 d_askedP), .int (i32 d_askedQ), .int (i32 d_factor)])), (aX0_divisors, aI X.cI 48 d_divisors), (aX0_fewest, aI X.cI 5001 (ups d_fewest l4 x62)), (aX0_takes, aL X.cJ 5001 (ups d_takes l4 x105)), (aX0_chosen, aI X.cI 48 d_chosen)]) g 3 rfl c105 e105 (by decide) rfl dX0_choose_105 ?_
    refine q_lv (lv' := [(0, .ref hX0), (1, .int (i32 l1)), (2, .int (i32 l2)), (3, .int (i32 l3)), (4, .int (i32 l4))]) [1, 2, 3, 4, 5] rfl ?_
    exact s_X0_choose_106 g hR hX0 aX0_divisors aX0_reachable aX0_fewest aX0_takes aX0_chosen d_askedP d_askedQ d_factor d_divisors d_divisorsSize r_d_divisors r_d_divisorsSize Q hF K_27 hK_27 (wp_X0_choose_45 Q d_divisors d_divisorsSize K_27 n) (fun v0 v1 v2 v3 v4 v5 v6 v7 w0 w1 w2 w3 w4 w5 w6 w7 hh => ih v0 v1 v2 v3 v4 v5 v6 v7 w0 w1 w2 w3 w4 w5 w6 w7 hh) (ups d_fewest l4 x62) (ups d_takes l4 x105) d_chosen d_size l1 l2 l3 l4 (rr32_u r_d_fewest rx62) (rr64_u r_d_takes rx105) r_d_chosen r_d_size r_l1 r_l2 r_l3 r_l4 h
def wp_X0_choose_27 (Q : (Int → Int) → (Int → Int) → (Int → Int) → Int → Prop) (d_divisors : Int → Int) (d_divisorsSize : Int) : Nat → (Int → Int) → (Int → Int) → (Int → Int) → Int → Int → Int → Prop
  | 0, _, _, _, _, _, _ => False
  | n + 1, d_fewest, d_takes, d_chosen, d_size, l1, l2 => ((d_divisorsSize ≤ l2 → wp_X0_readChosen (fun (d_chosen_120 : Int → Int) (d_size_120 : Int) => Q d_fewest d_takes d_chosen_120 d_size_120) d_divisors d_takes d_chosen d_divisorsSize d_size l1) ∧
  (¬ (d_divisorsSize ≤ l2) → (0 ≤ l2 ∧ l2 < 48 ∧ ∀ x41 : Int, x41 = (d_divisors l2) → (∃ n0 : Nat, wp_X0_choose_45 Q d_divisors d_divisorsSize (wp_X0_choose_27 Q d_divisors d_divisorsSize n) n0 d_fewest d_takes d_chosen d_size l1 l2 x41 l1))))
set_option maxHeartbeats 4000000 in
set_option maxRecDepth 100000 in
theorem s_X0_choose_27 {X : Cx} (g : Gd X cX0_choose RX0 none 6) (hR : X.R = rmL 2 0 0) (hX0 : Nat) (aX0_divisors : Nat) (aX0_reachable : Nat) (aX0_fewest : Nat) (aX0_takes : Nat) (aX0_chosen : Nat) (d_askedP : Int) (d_askedQ : Int) (d_factor : Int) (d_divisors : Int → Int) (d_divisorsSize : Int) (r_d_divisors : rr32 d_divisors) (r_d_divisorsSize : r32 d_divisorsSize) (Q : (Int → Int) → (Int → Int) → (Int → Int) → Int → Prop) (hF : FQ X 0 0 (po_X0_choose X.cI X.cJ hX0 aX0_divisors aX0_reachable aX0_fewest aX0_takes aX0_chosen d_divisorsSize d_askedP d_askedQ d_factor d_divisors Q)) : ∀ (n : Nat) (d_fewest : Int → Int) (d_takes : Int → Int) (d_chosen : Int → Int) (d_size : Int) (l1 : Int) (l2 : Int), rr32 d_fewest → rr64 d_takes → rr32 d_chosen → r32 d_size → r32 l1 → r32 l2 → wp_X0_choose_27 Q d_divisors d_divisorsSize n d_fewest d_takes d_chosen d_size l1 l2 → Wat X 0 0 27 [(0, .ref hX0), (1, .int (i32 l1)), (2, .int (i32 l2))] [] [(hX0, .inr (0, [.ref aX0_divisors, .ref aX0_reachable, .ref aX0_fewest, .ref aX0_takes, .ref aX0_chosen, .int (i32 d_divisorsSize), .int (i32 d_size), .int (i32 d_askedP), .int (i32 d_askedQ), .int (i32 d_factor)])), (aX0_divisors, aI X.cI 48 d_divisors), (aX0_fewest, aI X.cI 5001 d_fewest), (aX0_takes, aL X.cJ 5001 d_takes), (aX0_chosen, aI X.cI 48 d_chosen)] := by
  intro n
  induction n with
  | zero => intro d_fewest d_takes d_chosen d_size l1 l2 r_d_fewest r_d_takes r_d_chosen r_d_size r_l1 r_l2 h; exact False.elim h
  | succ n ih =>
    intro d_fewest d_takes d_chosen d_size l1 l2 r_d_fewest r_d_takes r_d_chosen r_d_size r_l1 r_l2 h
    rw [wp_X0_choose_27] at h
    refine q_iload_n g 2 2 rfl dX0_choose_27 ?_
    refine q_aload_n g 0 0 rfl dX0_choose_28 ?_
    refine q_get (C := RX0) (T := TX0) (N := 10) g 57 inX0 0 5 rfl rfl (by decide) wF_X0_57 rfl dX0_choose_29 ?_
    refine q_icmp_ge g (86) 118 r_l2 r_d_divisorsSize (by decide) dX0_choose_32 (fun b32 => ?_) (fun b32 => ?_)
    · replace h := h.1 b32
      refine q_aload_n g 0 0 rfl dX0_choose_118 ?_
      refine q_iload_n g 1 1 rfl dX0_choose_119 ?_
      refine q_callV (lev := 1) (mc := 0) (ms := 0) g 75 (c_X0_readChosen X.l X.D X.cI X.cJ X.zt hX0 aX0_divisors aX0_reachable aX0_fewest aX0_takes aX0_chosen d_divisorsSize d_size d_askedP d_askedQ d_factor d_divisors d_takes d_chosen l1 _ r_d_divisors r_d_takes r_d_chosen r_d_divisorsSize r_d_size r_l1 h) (wr := [(aX0_fewest, aI X.cI 5001 d_fewest)]) [0, 1, 3, 4] [2] rfl rfl rfl (by decide) (by decide) (by decide) (ci := 0) rfl rfl rfl wM_X0_75 wI_X0_readChosen wS_X0_readChosen wZ_X0 wC_X0_readChosen 1 rfl (by decide +kernel) (by rw [hR]; exact ⟨by show 1 + 1 ≤ 2; omega, by show 8 + (4 + 11) + 100 * 1 ≤ 100 * 2; omega⟩) (by rw [hR]; exact ⟨Nat.le_refl _, Nat.le_refl _⟩) (Nat.le_of_ble_eq_true rfl) rfl dX0_choose_120 (fun rv w1 hq => ?_)
      obtain ⟨d_chosen_120, d_size_120, rfl, rfl, rd_chosen_120, rd_size_120, h⟩ := hq
      refine q_ws (ws' := [(hX0, .inr (0, [.ref aX0_divisors, .ref aX0_reachable, .ref aX0_fewest, .ref aX0_takes, .ref aX0_chosen, .int (i32 d_divisorsSize), .int (i32 d_size_120), .int (i32 d_askedP), .int (i32 d_askedQ), .int (i32 d_factor)])), (aX0_divisors, aI X.cI 48 d_divisors), (aX0_fewest, aI X.cI 5001 d_fewest), (aX0_takes, aL X.cJ 5001 d_takes), (aX0_chosen, aI X.cI 48 d_chosen_120)]) [1, 2, 0, 3, 4] (by decide) rfl rfl ?_
      show Wat X 0 0 123 [(0, .ref hX0), (1, .int (i32 l1)), (2, .int (i32 l2))] [] [(hX0, .inr (0, [.ref aX0_divisors, .ref aX0_reachable, .ref aX0_fewest, .ref aX0_takes, .ref aX0_chosen, .int (i32 d_divisorsSize), .int (i32 d_size_120), .int (i32 d_askedP), .int (i32 d_askedQ), .int (i32 d_factor)])), (aX0_divisors, aI X.cI 48 d_divisors), (aX0_fewest, aI X.cI 5001 d_fewest), (aX0_takes, aL X.cJ 5001 d_takes), (aX0_chosen, aI X.cI 48 d_chosen_120)]
      exact q_vret g hF ⟨d_fewest, d_takes, d_chosen_120, d_size_120, rfl, rfl, r_d_fewest, r_d_takes, rd_chosen_120, rd_size_120, h⟩ dX0_choose_123
    replace h := h.2 b32
    refine q_aload_n g 0 0 rfl dX0_choose_35 ?_
    refine q_get (C := RX0) (T := TX0) (N := 10) g 11 inX0 0 0 rfl rfl (by decide) wF_X0_11 rfl dX0_choose_36 ?_
    refine q_iload_n g 2 2 rfl dX0_choose_39 ?_
    obtain ⟨c40, h⟩ := h
    obtain ⟨e40, h⟩ := h
    refine q_iald g 1 rfl c40 e40 (by decide) dX0_choose_40 ?_
    refine q_topi (r_d_divisors _) (fun x41 ex41 rx41 => ?_)
    replace h := h x41 ex41
    refine q_istore_n (lv' := [(3, .int (i32 x41)), (0, .ref hX0), (1, .int (i32 l1)), (2, .int (i32 l2))]) g 3 3 rfl (by decide) rfl dX0_choose_41 ?_
    refine q_iload_n g 1 2 rfl dX0_choose_42 ?_
    refine q_istore (lv' := [(4, .int (i32 l1)), (3, .int (i32 x41)), (0, .ref hX0), (1, .int (i32 l1)), (2, .int (i32 l2))]) g 4   (by decide) rfl dX0_choose_43 ?_
    refine q_lv (lv' := [(0, .ref hX0), (1, .int (i32 l1)), (2, .int (i32 l2)), (3, .int (i32 x41)), (4, .int (i32 l1))]) [2, 3, 4, 1, 0] rfl ?_
    obtain ⟨n0, h⟩ := h
    exact s_X0_choose_45 g hR hX0 aX0_divisors aX0_reachable aX0_fewest aX0_takes aX0_chosen d_askedP d_askedQ d_factor d_divisors d_divisorsSize r_d_divisors r_d_divisorsSize Q hF (wp_X0_choose_27 Q d_divisors d_divisorsSize n) (fun v0 v1 v2 v3 v4 v5 w0 w1 w2 w3 w4 w5 hh => ih v0 v1 v2 v3 v4 v5 w0 w1 w2 w3 w4 w5 hh) n0 d_fewest d_takes d_chosen d_size l1 l2 x41 l1 r_d_fewest r_d_takes r_d_chosen r_d_size r_l1 r_l2 rx41 r_l1 h
def wp_X0_choose (Q : (Int → Int) → (Int → Int) → (Int → Int) → Int → Prop) (d_divisors : Int → Int) (d_fewest : Int → Int) (d_takes : Int → Int) (d_chosen : Int → Int) (d_divisorsSize : Int) (d_size : Int) (l1 : Int) : Prop := wp_J7_fill_53178 (fun (d_fewest_7 : Int → Int) => wp_J7_fill_d0a16 (fun (d_takes_15 : Int → Int) => (∃ n0 : Nat, wp_X0_choose_27 Q d_divisors d_divisorsSize n0 (ups d_fewest_7 0 0) d_takes_15 d_chosen d_size l1 0)) 5001 d_takes 0) 5001 d_fewest 1000
set_option maxHeartbeats 4000000 in
set_option maxRecDepth 100000 in
theorem c_X0_choose (l : Launch) (D : va_G) (cI cJ : ClassId) (zt : Nat) (hX0 : Nat) (aX0_divisors : Nat) (aX0_reachable : Nat) (aX0_fewest : Nat) (aX0_takes : Nat) (aX0_chosen : Nat) (d_divisorsSize : Int) (d_size : Int) (d_askedP : Int) (d_askedQ : Int) (d_factor : Int) (d_divisors : Int → Int) (d_fewest : Int → Int) (d_takes : Int → Int) (d_chosen : Int → Int) (l1 : Int) (Q : (Int → Int) → (Int → Int) → (Int → Int) → Int → Prop) (r_d_divisors : rr32 d_divisors) (r_d_fewest : rr32 d_fewest) (r_d_takes : rr64 d_takes) (r_d_chosen : rr32 d_chosen) (r_d_divisorsSize : r32 d_divisorsSize) (r_d_size : r32 d_size) (r_l1 : r32 l1) (h : wp_X0_choose Q d_divisors d_fewest d_takes d_chosen d_divisorsSize d_size l1) : Ct l D cI cJ zt yX0_choose cX0_choose 6 none 2 0 0 [.ref hX0, .int (i32 l1)] [(hX0, .inr (0, [.ref aX0_divisors, .ref aX0_reachable, .ref aX0_fewest, .ref aX0_takes, .ref aX0_chosen, .int (i32 d_divisorsSize), .int (i32 d_size), .int (i32 d_askedP), .int (i32 d_askedQ), .int (i32 d_factor)])), (aX0_divisors, aI cI 48 d_divisors), (aX0_fewest, aI cI 5001 d_fewest), (aX0_takes, aL cJ 5001 d_takes), (aX0_chosen, aI cI 48 d_chosen)] (po_X0_choose cI cJ hX0 aX0_divisors aX0_reachable aX0_fewest aX0_takes aX0_chosen d_divisorsSize d_askedP d_askedQ d_factor d_divisors Q) := by
  refine ct_of (by decide +kernel) (Nat.le_of_ble_eq_true rfl) (fun X hl hDD hcI hcJ hzt hR hF hnm g => ?_)
  subst hl; subst hDD; subst hcI; subst hcJ; subst hzt
  show Wat X 0 0 0 [(0, .ref hX0), (1, .int (i32 l1))] [] [(hX0, .inr (0, [.ref aX0_divisors, .ref aX0_reachable, .ref aX0_fewest, .ref aX0_takes, .ref aX0_chosen, .int (i32 d_divisorsSize), .int (i32 d_size), .int (i32 d_askedP), .int (i32 d_askedQ), .int (i32 d_factor)])), (aX0_divisors, aI X.cI 48 d_divisors), (aX0_fewest, aI X.cI 5001 d_fewest), (aX0_takes, aL X.cJ 5001 d_takes), (aX0_chosen, aI X.cI 48 d_chosen)]
  replace g : Gd X cX0_choose RX0 none 6 := g
  rw [wp_X0_choose] at h
  refine q_aload_n g 0 0 rfl dX0_choose_0 ?_
  refine q_get (C := RX0) (T := TX0) (N := 10) g 19 inX0 0 2 rfl rfl (by decide) wF_X0_19 rfl dX0_choose_1 ?_
  refine q_sipush g (1000) (by decide) (by decide) dX0_choose_4 ?_
  refine q_callS (lev := 1) (mc := 0) (ms := 0) (As := [.ref aX0_fewest, .int (i32 1000)]) g 72 (c_J7_fill_53178 X.l X.D X.cI X.cJ X.zt aX0_fewest 5001 d_fewest 1000 _ r_d_fewest (r32_lit _ (by decide)) (by decide) h) (wr := [(hX0, .inr (0, [.ref aX0_divisors, .ref aX0_reachable, .ref aX0_fewest, .ref aX0_takes, .ref aX0_chosen, .int (i32 d_divisorsSize), .int (i32 d_size), .int (i32 d_askedP), .int (i32 d_askedQ), .int (i32 d_factor)])), (aX0_divisors, aI X.cI 48 d_divisors), (aX0_takes, aL X.cJ 5001 d_takes), (aX0_chosen, aI X.cI 48 d_chosen)]) [2] [0, 1, 3, 4] rfl rfl rfl (by decide) (by decide) (by decide) wM_X0_72 wT_J7_fill_53178 wZ_J7 wC_J7_fill_53178 2 rfl (by decide +kernel) (by rw [hR]; exact ⟨by show 1 + 1 ≤ 2; omega, by show 8 + (4 + 11) + 100 * 1 ≤ 100 * 2; omega⟩) (by rw [hR]; exact ⟨Nat.le_refl _, Nat.le_refl _⟩) (Nat.le_of_ble_eq_true rfl) rfl dX0_choose_7 (fun rv w1 hq => ?_)
  obtain ⟨d_fewest_7, rfl, rfl, rd_fewest_7, h⟩ := hq
  refine q_ws (ws' := [(hX0, .inr (0, [.ref aX0_divisors, .ref aX0_reachable, .ref aX0_fewest, .ref aX0_takes, .ref aX0_chosen, .int (i32 d_divisorsSize), .int (i32 d_size), .int (i32 d_askedP), .int (i32 d_askedQ), .int (i32 d_factor)])), (aX0_divisors, aI X.cI 48 d_divisors), (aX0_fewest, aI X.cI 5001 d_fewest_7), (aX0_takes, aL X.cJ 5001 d_takes), (aX0_chosen, aI X.cI 48 d_chosen)]) [0, 1, 4, 2, 3] (by decide) rfl rfl ?_
  show Wat X 0 0 10 [(0, .ref hX0), (1, .int (i32 l1))] [] [(hX0, .inr (0, [.ref aX0_divisors, .ref aX0_reachable, .ref aX0_fewest, .ref aX0_takes, .ref aX0_chosen, .int (i32 d_divisorsSize), .int (i32 d_size), .int (i32 d_askedP), .int (i32 d_askedQ), .int (i32 d_factor)])), (aX0_divisors, aI X.cI 48 d_divisors), (aX0_fewest, aI X.cI 5001 d_fewest_7), (aX0_takes, aL X.cJ 5001 d_takes), (aX0_chosen, aI X.cI 48 d_chosen)]
  refine q_aload_n g 0 0 rfl dX0_choose_10 ?_
  refine q_get (C := RX0) (T := TX0) (N := 10) g 22 inX0 0 3 rfl rfl (by decide) wF_X0_22 rfl dX0_choose_11 ?_
  refine q_lconst g 0 0 rfl dX0_choose_14 ?_
  refine q_callS (lev := 1) (mc := 0) (ms := 0) (As := [.ref aX0_takes, .long (i64 0)]) g 63 (c_J7_fill_d0a16 X.l X.D X.cI X.cJ X.zt aX0_takes 5001 d_takes 0 _ r_d_takes (r64_lit _ (by decide)) (by decide) h) (wr := [(hX0, .inr (0, [.ref aX0_divisors, .ref aX0_reachable, .ref aX0_fewest, .ref aX0_takes, .ref aX0_chosen, .int (i32 d_divisorsSize), .int (i32 d_size), .int (i32 d_askedP), .int (i32 d_askedQ), .int (i32 d_factor)])), (aX0_divisors, aI X.cI 48 d_divisors), (aX0_fewest, aI X.cI 5001 d_fewest_7), (aX0_chosen, aI X.cI 48 d_chosen)]) [3] [0, 1, 2, 4] rfl rfl rfl (by decide) (by decide) (by decide) wM_X0_63 wT_J7_fill_d0a16 wZ_J7 wC_J7_fill_d0a16 2 rfl (by decide +kernel) (by rw [hR]; exact ⟨by show 1 + 1 ≤ 2; omega, by show 8 + (5 + 11) + 100 * 1 ≤ 100 * 2; omega⟩) (by rw [hR]; exact ⟨Nat.le_refl _, Nat.le_refl _⟩) (Nat.le_of_ble_eq_true rfl) rfl dX0_choose_15 (fun rv w1 hq => ?_)
  obtain ⟨d_takes_15, rfl, rfl, rd_takes_15, h⟩ := hq
  refine q_ws (ws' := [(hX0, .inr (0, [.ref aX0_divisors, .ref aX0_reachable, .ref aX0_fewest, .ref aX0_takes, .ref aX0_chosen, .int (i32 d_divisorsSize), .int (i32 d_size), .int (i32 d_askedP), .int (i32 d_askedQ), .int (i32 d_factor)])), (aX0_divisors, aI X.cI 48 d_divisors), (aX0_fewest, aI X.cI 5001 d_fewest_7), (aX0_takes, aL X.cJ 5001 d_takes_15), (aX0_chosen, aI X.cI 48 d_chosen)]) [0, 1, 2, 4, 3] (by decide) rfl rfl ?_
  show Wat X 0 0 18 [(0, .ref hX0), (1, .int (i32 l1))] [] [(hX0, .inr (0, [.ref aX0_divisors, .ref aX0_reachable, .ref aX0_fewest, .ref aX0_takes, .ref aX0_chosen, .int (i32 d_divisorsSize), .int (i32 d_size), .int (i32 d_askedP), .int (i32 d_askedQ), .int (i32 d_factor)])), (aX0_divisors, aI X.cI 48 d_divisors), (aX0_fewest, aI X.cI 5001 d_fewest_7), (aX0_takes, aL X.cJ 5001 d_takes_15), (aX0_chosen, aI X.cI 48 d_chosen)]
  refine q_aload_n g 0 0 rfl dX0_choose_18 ?_
  refine q_get (C := RX0) (T := TX0) (N := 10) g 19 inX0 0 2 rfl rfl (by decide) wF_X0_19 rfl dX0_choose_19 ?_
  refine q_iconst g (0) dX0_choose_22 ?_
  refine q_iconst g (0) dX0_choose_23 ?_
  refine q_iast (ws' := [(hX0, .inr (0, [.ref aX0_divisors, .ref aX0_reachable, .ref aX0_fewest, .ref aX0_takes, .ref aX0_chosen, .int (i32 d_divisorsSize), .int (i32 d_size), .int (i32 d_askedP), .int (i32 d_askedQ), .int (i32 d_factor)])), (aX0_divisors, aI X.cI 48 d_divisors), (aX0_fewest, aI X.cI 5001 (ups d_fewest_7 0 0)), (aX0_takes, aL X.cJ 5001 d_takes_15), (aX0_chosen, aI X.cI 48 d_chosen)]) g 2 rfl (by decide) (by decide) (by decide) rfl dX0_choose_24 ?_
  refine q_iconst g (0) dX0_choose_25 ?_
  refine q_istore_n (lv' := [(2, .int (i32 0)), (0, .ref hX0), (1, .int (i32 l1))]) g 2 2 rfl (by decide) rfl dX0_choose_26 ?_
  refine q_lv (lv' := [(0, .ref hX0), (1, .int (i32 l1)), (2, .int (i32 0))]) [1, 2, 0] rfl ?_
  obtain ⟨n0, h⟩ := h
  exact s_X0_choose_27 g hR hX0 aX0_divisors aX0_reachable aX0_fewest aX0_takes aX0_chosen d_askedP d_askedQ d_factor d_divisors d_divisorsSize r_d_divisors r_d_divisorsSize Q hF n0 (ups d_fewest_7 0 0) d_takes_15 d_chosen d_size l1 0 (rr32_u rd_fewest_7 (r32_lit _ (by decide))) rd_takes_15 r_d_chosen r_d_size r_l1 (r32_lit _ (by decide)) h
theorem dX0_listDivisors_0 : decode cX0_listDivisors 0 = .ok (.aload_n 0, 1) := by decide +kernel
theorem dX0_listDivisors_1 : decode cX0_listDivisors 1 = .ok (.iconst 0, 1) := by decide +kernel
theorem dX0_listDivisors_2 : decode cX0_listDivisors 2 = .ok (.putfield 57, 3) := by decide +kernel
theorem dX0_listDivisors_5 : decode cX0_listDivisors 5 = .ok (.iconst 0, 1) := by decide +kernel
theorem dX0_listDivisors_6 : decode cX0_listDivisors 6 = .ok (.istore_n 3, 1) := by decide +kernel
theorem dX0_listDivisors_7 : decode cX0_listDivisors 7 = .ok (.iconst 1, 1) := by decide +kernel
theorem dX0_listDivisors_8 : decode cX0_listDivisors 8 = .ok (.istore 4, 2) := by decide +kernel
theorem dX0_listDivisors_10 : decode cX0_listDivisors 10 = .ok (.iload 4, 2) := by decide +kernel
theorem dX0_listDivisors_12 : decode cX0_listDivisors 12 = .ok (.iload_n 1, 1) := by decide +kernel
theorem dX0_listDivisors_13 : decode cX0_listDivisors 13 = .ok (.iload 4, 2) := by decide +kernel
theorem dX0_listDivisors_15 : decode cX0_listDivisors 15 = .ok (.idiv, 1) := by decide +kernel
theorem dX0_listDivisors_16 : decode cX0_listDivisors 16 = .ok (.if_icmp .gt 26, 3) := by decide +kernel
theorem dX0_listDivisors_19 : decode cX0_listDivisors 19 = .ok (.iload 4, 2) := by decide +kernel
theorem dX0_listDivisors_21 : decode cX0_listDivisors 21 = .ok (.istore_n 3, 1) := by decide +kernel
theorem dX0_listDivisors_22 : decode cX0_listDivisors 22 = .ok (.iload_n 1, 1) := by decide +kernel
theorem dX0_listDivisors_23 : decode cX0_listDivisors 23 = .ok (.iload 4, 2) := by decide +kernel
theorem dX0_listDivisors_25 : decode cX0_listDivisors 25 = .ok (.irem, 1) := by decide +kernel
theorem dX0_listDivisors_26 : decode cX0_listDivisors 26 = .ok (.ifCond .ne 10, 3) := by decide +kernel
theorem dX0_listDivisors_29 : decode cX0_listDivisors 29 = .ok (.aload_n 0, 1) := by decide +kernel
theorem dX0_listDivisors_30 : decode cX0_listDivisors 30 = .ok (.iload 4, 2) := by decide +kernel
theorem dX0_listDivisors_32 : decode cX0_listDivisors 32 = .ok (.iload_n 2, 1) := by decide +kernel
theorem dX0_listDivisors_33 : decode cX0_listDivisors 33 = .ok (.invokevirtual 60, 3) := by decide +kernel
theorem dX0_listDivisors_36 : decode cX0_listDivisors 36 = .ok (.iinc 4 1, 3) := by decide +kernel
theorem dX0_listDivisors_39 : decode cX0_listDivisors 39 = .ok (.goto (-29), 3) := by decide +kernel
theorem dX0_listDivisors_42 : decode cX0_listDivisors 42 = .ok (.iload_n 3, 1) := by decide +kernel
theorem dX0_listDivisors_43 : decode cX0_listDivisors 43 = .ok (.istore 4, 2) := by decide +kernel
theorem dX0_listDivisors_45 : decode cX0_listDivisors 45 = .ok (.iload 4, 2) := by decide +kernel
theorem dX0_listDivisors_47 : decode cX0_listDivisors 47 = .ok (.ifCond .le 33, 3) := by decide +kernel
theorem dX0_listDivisors_50 : decode cX0_listDivisors 50 = .ok (.iload_n 1, 1) := by decide +kernel
theorem dX0_listDivisors_51 : decode cX0_listDivisors 51 = .ok (.iload 4, 2) := by decide +kernel
theorem dX0_listDivisors_53 : decode cX0_listDivisors 53 = .ok (.irem, 1) := by decide +kernel
theorem dX0_listDivisors_54 : decode cX0_listDivisors 54 = .ok (.ifCond .ne 20, 3) := by decide +kernel
theorem dX0_listDivisors_57 : decode cX0_listDivisors 57 = .ok (.iload_n 1, 1) := by decide +kernel
theorem dX0_listDivisors_58 : decode cX0_listDivisors 58 = .ok (.iload 4, 2) := by decide +kernel
theorem dX0_listDivisors_60 : decode cX0_listDivisors 60 = .ok (.idiv, 1) := by decide +kernel
theorem dX0_listDivisors_61 : decode cX0_listDivisors 61 = .ok (.iload_n 3, 1) := by decide +kernel
theorem dX0_listDivisors_62 : decode cX0_listDivisors 62 = .ok (.if_icmp .le 12, 3) := by decide +kernel
theorem dX0_listDivisors_65 : decode cX0_listDivisors 65 = .ok (.aload_n 0, 1) := by decide +kernel
theorem dX0_listDivisors_66 : decode cX0_listDivisors 66 = .ok (.iload_n 1, 1) := by decide +kernel
theorem dX0_listDivisors_67 : decode cX0_listDivisors 67 = .ok (.iload 4, 2) := by decide +kernel
theorem dX0_listDivisors_69 : decode cX0_listDivisors 69 = .ok (.idiv, 1) := by decide +kernel
theorem dX0_listDivisors_70 : decode cX0_listDivisors 70 = .ok (.iload_n 2, 1) := by decide +kernel
theorem dX0_listDivisors_71 : decode cX0_listDivisors 71 = .ok (.invokevirtual 60, 3) := by decide +kernel
theorem dX0_listDivisors_74 : decode cX0_listDivisors 74 = .ok (.iinc 4 (-1), 3) := by decide +kernel
theorem dX0_listDivisors_77 : decode cX0_listDivisors 77 = .ok (.goto (-32), 3) := by decide +kernel
theorem dX0_listDivisors_80 : decode cX0_listDivisors 80 = .ok (.return_, 1) := by decide +kernel
abbrev po_X0_listDivisors (cI cJ : ClassId) (hX0 : Nat) (aX0_divisors : Nat) (aX0_reachable : Nat) (aX0_fewest : Nat) (aX0_takes : Nat) (aX0_chosen : Nat) (d_size : Int) (d_askedP : Int) (d_askedQ : Int) (d_factor : Int) (Q : (Int → Int) → Int → Prop) : Option Value → va_W → Prop := fun rv w1 => ∃ (d_divisors : Int → Int) (d_divisorsSize : Int), rv = none ∧ w1 = [(hX0, .inr (0, [.ref aX0_divisors, .ref aX0_reachable, .ref aX0_fewest, .ref aX0_takes, .ref aX0_chosen, .int (i32 d_divisorsSize), .int (i32 d_size), .int (i32 d_askedP), .int (i32 d_askedQ), .int (i32 d_factor)])), (aX0_divisors, aI cI 48 d_divisors)] ∧ rr32 d_divisors ∧ r32 d_divisorsSize ∧ Q d_divisors d_divisorsSize
def wp_X0_listDivisors_36 (Q : (Int → Int) → Int → Prop) (K_10 : (Int → Int) → Int → Int → Int → Int → Int → Prop) (d_divisors : Int → Int) (d_divisorsSize : Int) (l1 : Int) (l2 : Int) (l3 : Int) (l4 : Int) : Prop := (r32 (l4 + 1) ∧ K_10 d_divisors d_divisorsSize l1 l2 l3 (l4 + 1))
set_option maxHeartbeats 4000000 in
set_option maxRecDepth 100000 in
theorem s_X0_listDivisors_36 {X : Cx} (g : Gd X cX0_listDivisors RX0 none 5) (hR : X.R = rmL 2 0 0) (hX0 : Nat) (aX0_divisors : Nat) (aX0_reachable : Nat) (aX0_fewest : Nat) (aX0_takes : Nat) (aX0_chosen : Nat) (d_size : Int) (d_askedP : Int) (d_askedQ : Int) (d_factor : Int) (Q : (Int → Int) → Int → Prop) (hF : FQ X 0 0 (po_X0_listDivisors X.cI X.cJ hX0 aX0_divisors aX0_reachable aX0_fewest aX0_takes aX0_chosen d_size d_askedP d_askedQ d_factor Q)) (K_10 : (Int → Int) → Int → Int → Int → Int → Int → Prop) (hK_10 : ∀ (d_divisors : Int → Int) (d_divisorsSize : Int) (l1 : Int) (l2 : Int) (l3 : Int) (l4 : Int), rr32 d_divisors → r32 d_divisorsSize → r32 l1 → r32 l2 → r32 l3 → r32 l4 → K_10 d_divisors d_divisorsSize l1 l2 l3 l4 → Wat X 0 0 10 [(0, .ref hX0), (1, .int (i32 l1)), (2, .int (i32 l2)), (3, .int (i32 l3)), (4, .int (i32 l4))] [] [(hX0, .inr (0, [.ref aX0_divisors, .ref aX0_reachable, .ref aX0_fewest, .ref aX0_takes, .ref aX0_chosen, .int (i32 d_divisorsSize), .int (i32 d_size), .int (i32 d_askedP), .int (i32 d_askedQ), .int (i32 d_factor)])), (aX0_divisors, aI X.cI 48 d_divisors)]) : ∀ (d_divisors : Int → Int) (d_divisorsSize : Int) (l1 : Int) (l2 : Int) (l3 : Int) (l4 : Int), rr32 d_divisors → r32 d_divisorsSize → r32 l1 → r32 l2 → r32 l3 → r32 l4 → wp_X0_listDivisors_36 Q K_10 d_divisors d_divisorsSize l1 l2 l3 l4 → Wat X 0 0 36 [(0, .ref hX0), (1, .int (i32 l1)), (2, .int (i32 l2)), (3, .int (i32 l3)), (4, .int (i32 l4))] [] [(hX0, .inr (0, [.ref aX0_divisors, .ref aX0_reachable, .ref aX0_fewest, .ref aX0_takes, .ref aX0_chosen, .int (i32 d_divisorsSize), .int (i32 d_size), .int (i32 d_askedP), .int (i32 d_askedQ), .int (i32 d_factor)])), (aX0_divisors, aI X.cI 48 d_divisors)] := by
  intro d_divisors d_divisorsSize l1 l2 l3 l4 r_d_divisors r_d_divisorsSize r_l1 r_l2 r_l3 r_l4 h
  rw [wp_X0_listDivisors_36] at h
  obtain ⟨c36, h⟩ := h
  refine q_iinc (lv' := [(4, .int (i32 (l4 + 1))), (0, .ref hX0), (1, .int (i32 l1)), (2, .int (i32 l2)), (3, .int (i32 l3))]) g 4 4 1 (by decide) rfl rfl dX0_listDivisors_36 ?_
  refine q_goto g (-29) 10 (by decide) dX0_listDivisors_39 ?_
  refine q_lv (lv' := [(0, .ref hX0), (1, .int (i32 l1)), (2, .int (i32 l2)), (3, .int (i32 l3)), (4, .int (i32 (l4 + 1)))]) [1, 2, 3, 4, 0] rfl ?_
  exact hK_10 d_divisors d_divisorsSize l1 l2 l3 (l4 + 1) r_d_divisors r_d_divisorsSize r_l1 r_l2 r_l3 c36 h
def wp_X0_listDivisors_74 (Q : (Int → Int) → Int → Prop) (K_45 : (Int → Int) → Int → Int → Int → Int → Int → Prop) (d_divisors : Int → Int) (d_divisorsSize : Int) (l1 : Int) (l2 : Int) (l3 : Int) (l4 : Int) : Prop := (r32 (l4 + (-1)) ∧ K_45 d_divisors d_divisorsSize l1 l2 l3 (l4 + (-1)))
set_option maxHeartbeats 4000000 in
set_option maxRecDepth 100000 in
theorem s_X0_listDivisors_74 {X : Cx} (g : Gd X cX0_listDivisors RX0 none 5) (hR : X.R = rmL 2 0 0) (hX0 : Nat) (aX0_divisors : Nat) (aX0_reachable : Nat) (aX0_fewest : Nat) (aX0_takes : Nat) (aX0_chosen : Nat) (d_size : Int) (d_askedP : Int) (d_askedQ : Int) (d_factor : Int) (Q : (Int → Int) → Int → Prop) (hF : FQ X 0 0 (po_X0_listDivisors X.cI X.cJ hX0 aX0_divisors aX0_reachable aX0_fewest aX0_takes aX0_chosen d_size d_askedP d_askedQ d_factor Q)) (K_45 : (Int → Int) → Int → Int → Int → Int → Int → Prop) (hK_45 : ∀ (d_divisors : Int → Int) (d_divisorsSize : Int) (l1 : Int) (l2 : Int) (l3 : Int) (l4 : Int), rr32 d_divisors → r32 d_divisorsSize → r32 l1 → r32 l2 → r32 l3 → r32 l4 → K_45 d_divisors d_divisorsSize l1 l2 l3 l4 → Wat X 0 0 45 [(0, .ref hX0), (1, .int (i32 l1)), (2, .int (i32 l2)), (3, .int (i32 l3)), (4, .int (i32 l4))] [] [(hX0, .inr (0, [.ref aX0_divisors, .ref aX0_reachable, .ref aX0_fewest, .ref aX0_takes, .ref aX0_chosen, .int (i32 d_divisorsSize), .int (i32 d_size), .int (i32 d_askedP), .int (i32 d_askedQ), .int (i32 d_factor)])), (aX0_divisors, aI X.cI 48 d_divisors)]) : ∀ (d_divisors : Int → Int) (d_divisorsSize : Int) (l1 : Int) (l2 : Int) (l3 : Int) (l4 : Int), rr32 d_divisors → r32 d_divisorsSize → r32 l1 → r32 l2 → r32 l3 → r32 l4 → wp_X0_listDivisors_74 Q K_45 d_divisors d_divisorsSize l1 l2 l3 l4 → Wat X 0 0 74 [(0, .ref hX0), (1, .int (i32 l1)), (2, .int (i32 l2)), (3, .int (i32 l3)), (4, .int (i32 l4))] [] [(hX0, .inr (0, [.ref aX0_divisors, .ref aX0_reachable, .ref aX0_fewest, .ref aX0_takes, .ref aX0_chosen, .int (i32 d_divisorsSize), .int (i32 d_size), .int (i32 d_askedP), .int (i32 d_askedQ), .int (i32 d_factor)])), (aX0_divisors, aI X.cI 48 d_divisors)] := by
  intro d_divisors d_divisorsSize l1 l2 l3 l4 r_d_divisors r_d_divisorsSize r_l1 r_l2 r_l3 r_l4 h
  rw [wp_X0_listDivisors_74] at h
  obtain ⟨c74, h⟩ := h
  refine q_iinc (lv' := [(4, .int (i32 (l4 + (-1)))), (0, .ref hX0), (1, .int (i32 l1)), (2, .int (i32 l2)), (3, .int (i32 l3))]) g 4 4 (-1) (by decide) rfl rfl dX0_listDivisors_74 ?_
  refine q_goto g (-32) 45 (by decide) dX0_listDivisors_77 ?_
  refine q_lv (lv' := [(0, .ref hX0), (1, .int (i32 l1)), (2, .int (i32 l2)), (3, .int (i32 l3)), (4, .int (i32 (l4 + (-1))))]) [1, 2, 3, 4, 0] rfl ?_
  exact hK_45 d_divisors d_divisorsSize l1 l2 l3 (l4 + (-1)) r_d_divisors r_d_divisorsSize r_l1 r_l2 r_l3 c74 h
def wp_X0_listDivisors_45 (Q : (Int → Int) → Int → Prop) : Nat → (Int → Int) → Int → Int → Int → Int → Int → Prop
  | 0, _, _, _, _, _, _ => False
  | n + 1, d_divisors, d_divisorsSize, l1, l2, l3, l4 => ((l4 ≤ 0 → Q d_divisors d_divisorsSize) ∧
  (¬ (l4 ≤ 0) → (0 < l4 ∧ ((¬ (l1.tmod l4) = 0 → wp_X0_listDivisors_74 Q (wp_X0_listDivisors_45 Q n) d_divisors d_divisorsSize l1 l2 l3 l4) ∧
  ((l1.tmod l4) = 0 → (0 < l4 ∧ (((l1.tdiv l4) ≤ l3 → wp_X0_listDivisors_74 Q (wp_X0_listDivisors_45 Q n) d_divisors d_divisorsSize l1 l2 l3 l4) ∧
  (¬ ((l1.tdiv l4) ≤ l3) → (0 < l4 ∧ wp_X0_addDivisor (fun (d_divisors_71 : Int → Int) (d_divisorsSize_71 : Int) => wp_X0_listDivisors_74 Q (wp_X0_listDivisors_45 Q n) d_divisors_71 d_divisorsSize_71 l1 l2 l3 l4) d_divisors d_divisorsSize (l1.tdiv l4) l2)))))))))
set_option maxHeartbeats 4000000 in
set_option maxRecDepth 100000 in
theorem s_X0_listDivisors_45 {X : Cx} (g : Gd X cX0_listDivisors RX0 none 5) (hR : X.R = rmL 2 0 0) (hX0 : Nat) (aX0_divisors : Nat) (aX0_reachable : Nat) (aX0_fewest : Nat) (aX0_takes : Nat) (aX0_chosen : Nat) (d_size : Int) (d_askedP : Int) (d_askedQ : Int) (d_factor : Int) (Q : (Int → Int) → Int → Prop) (hF : FQ X 0 0 (po_X0_listDivisors X.cI X.cJ hX0 aX0_divisors aX0_reachable aX0_fewest aX0_takes aX0_chosen d_size d_askedP d_askedQ d_factor Q)) : ∀ (n : Nat) (d_divisors : Int → Int) (d_divisorsSize : Int) (l1 : Int) (l2 : Int) (l3 : Int) (l4 : Int), rr32 d_divisors → r32 d_divisorsSize → r32 l1 → r32 l2 → r32 l3 → r32 l4 → wp_X0_listDivisors_45 Q n d_divisors d_divisorsSize l1 l2 l3 l4 → Wat X 0 0 45 [(0, .ref hX0), (1, .int (i32 l1)), (2, .int (i32 l2)), (3, .int (i32 l3)), (4, .int (i32 l4))] [] [(hX0, .inr (0, [.ref aX0_divisors, .ref aX0_reachable, .ref aX0_fewest, .ref aX0_takes, .ref aX0_chosen, .int (i32 d_divisorsSize), .int (i32 d_size), .int (i32 d_askedP), .int (i32 d_askedQ), .int (i32 d_factor)])), (aX0_divisors, aI X.cI 48 d_divisors)] := by
  intro n
  induction n with
  | zero => intro d_divisors d_divisorsSize l1 l2 l3 l4 r_d_divisors r_d_divisorsSize r_l1 r_l2 r_l3 r_l4 h; exact False.elim h
  | succ n ih =>
    intro d_divisors d_divisorsSize l1 l2 l3 l4 r_d_divisors r_d_divisorsSize r_l1 r_l2 r_l3 r_l4 h
    rw [wp_X0_listDivisors_45] at h
    refine q_iload g 4 4 rfl dX0_listDivisors_45 ?_
    refine q_if_le g (33) 80 r_l4 (by decide) dX0_listDivisors_47 (fun b47 => ?_) (fun b47 => ?_)
    · replace h := h.1 b47
      exact q_vret g hF ⟨d_divisors, d_divisorsSize, rfl, rfl, r_d_divisors, r_d_divisorsSize, h⟩ dX0_listDivisors_80
    replace h := h.2 b47
    refine q_iload_n g 1 1 rfl dX0_listDivisors_50 ?_
    refine q_iload g 4 4 rfl dX0_listDivisors_51 ?_
    obtain ⟨c53, h⟩ := h
    refine q_irem g r_l1 r_l4 (ne_of_pos c53) dX0_listDivisors_53 ?_
    refine q_if_ne g (20) 74 (r32_tmod r_l1 r_l4 (ne_of_pos c53)) (by decide) dX0_listDivisors_54 (fun b54 => ?_) (fun b54 => ?_)
    · replace h := h.1 b54
      exact s_X0_listDivisors_74 g hR hX0 aX0_divisors aX0_reachable aX0_fewest aX0_takes aX0_chosen d_size d_askedP d_askedQ d_factor Q hF (wp_X0_listDivisors_45 Q n) (fun v0 v1 v2 v3 v4 v5 w0 w1 w2 w3 w4 w5 hh => ih v0 v1 v2 v3 v4 v5 w0 w1 w2 w3 w4 w5 hh) d_divisors d_divisorsSize l1 l2 l3 l4 r_d_divisors r_d_divisorsSize r_l1 r_l2 r_l3 r_l4 h
    replace h := h.2 b54
    refine q_iload_n g 1 1 rfl dX0_listDivisors_57 ?_
    refine q_iload g 4 4 rfl dX0_listDivisors_58 ?_
    obtain ⟨c60, h⟩ := h
    refine q_idiv g r_l1 r_l4 (ne_of_pos c60) dX0_listDivisors_60 ?_
    refine q_iload_n g 3 3 rfl dX0_listDivisors_61 ?_
    refine q_icmp_le g (12) 74 (r32_tdiv r_l1 c60) r_l3 (by decide) dX0_listDivisors_62 (fun b62 => ?_) (fun b62 => ?_)
    · replace h := h.1 b62
      exact s_X0_listDivisors_74 g hR hX0 aX0_divisors aX0_reachable aX0_fewest aX0_takes aX0_chosen d_size d_askedP d_askedQ d_factor Q hF (wp_X0_listDivisors_45 Q n) (fun v0 v1 v2 v3 v4 v5 w0 w1 w2 w3 w4 w5 hh => ih v0 v1 v2 v3 v4 v5 w0 w1 w2 w3 w4 w5 hh) d_divisors d_divisorsSize l1 l2 l3 l4 r_d_divisors r_d_divisorsSize r_l1 r_l2 r_l3 r_l4 h
    replace h := h.2 b62
    refine q_aload_n g 0 0 rfl dX0_listDivisors_65 ?_
    refine q_iload_n g 1 1 rfl dX0_listDivisors_66 ?_
    refine q_iload g 4 4 rfl dX0_listDivisors_67 ?_
    obtain ⟨c69, h⟩ := h
    refine q_idiv g r_l1 r_l4 (ne_of_pos c69) dX0_listDivisors_69 ?_
    refine q_iload_n g 2 2 rfl dX0_listDivisors_70 ?_
    refine q_callV (lev := 1) (mc := 0) (ms := 0) g 60 (c_X0_addDivisor X.l X.D X.cI X.cJ X.zt hX0 aX0_divisors aX0_reachable aX0_fewest aX0_takes aX0_chosen d_divisorsSize d_size d_askedP d_askedQ d_factor d_divisors (l1.tdiv l4) l2 _ r_d_divisors r_d_divisorsSize (r32_tdiv r_l1 c69) r_l2 h) (wr := []) [0, 1] [] rfl rfl rfl (by decide) (by decide) (by decide) (ci := 0) rfl rfl rfl wM_X0_60 wI_X0_addDivisor wS_X0_addDivisor wZ_X0 wC_X0_addDivisor 2 rfl (by decide +kernel) (by rw [hR]; exact ⟨by show 1 + 1 ≤ 2; omega, by show 8 + (3 + 11) + 100 * 1 ≤ 100 * 2; omega⟩) (by rw [hR]; exact ⟨Nat.le_refl _, Nat.le_refl _⟩) (Nat.le_of_ble_eq_true rfl) rfl dX0_listDivisors_71 (fun rv w1 hq => ?_)
    obtain ⟨d_divisors_71, d_divisorsSize_71, rfl, rfl, rd_divisors_71, rd_divisorsSize_71, h⟩ := hq
    show Wat X 0 0 74 [(0, .ref hX0), (1, .int (i32 l1)), (2, .int (i32 l2)), (3, .int (i32 l3)), (4, .int (i32 l4))] [] [(hX0, .inr (0, [.ref aX0_divisors, .ref aX0_reachable, .ref aX0_fewest, .ref aX0_takes, .ref aX0_chosen, .int (i32 d_divisorsSize_71), .int (i32 d_size), .int (i32 d_askedP), .int (i32 d_askedQ), .int (i32 d_factor)])), (aX0_divisors, aI X.cI 48 d_divisors_71)]
    exact s_X0_listDivisors_74 g hR hX0 aX0_divisors aX0_reachable aX0_fewest aX0_takes aX0_chosen d_size d_askedP d_askedQ d_factor Q hF (wp_X0_listDivisors_45 Q n) (fun v0 v1 v2 v3 v4 v5 w0 w1 w2 w3 w4 w5 hh => ih v0 v1 v2 v3 v4 v5 w0 w1 w2 w3 w4 w5 hh) d_divisors_71 d_divisorsSize_71 l1 l2 l3 l4 rd_divisors_71 rd_divisorsSize_71 r_l1 r_l2 r_l3 r_l4 h
def wp_X0_listDivisors_10 (Q : (Int → Int) → Int → Prop) : Nat → (Int → Int) → Int → Int → Int → Int → Int → Prop
  | 0, _, _, _, _, _, _ => False
  | n + 1, d_divisors, d_divisorsSize, l1, l2, l3, l4 => (0 < l4 ∧ (((l1.tdiv l4) < l4 → (∃ n0 : Nat, wp_X0_listDivisors_45 Q n0 d_divisors d_divisorsSize l1 l2 l3 l3)) ∧
  (¬ ((l1.tdiv l4) < l4) → (0 < l4 ∧ ((¬ (l1.tmod l4) = 0 → wp_X0_listDivisors_36 Q (wp_X0_listDivisors_10 Q n) d_divisors d_divisorsSize l1 l2 l4 l4) ∧
  ((l1.tmod l4) = 0 → wp_X0_addDivisor (fun (d_divisors_33 : Int → Int) (d_divisorsSize_33 : Int) => wp_X0_listDivisors_36 Q (wp_X0_listDivisors_10 Q n) d_divisors_33 d_divisorsSize_33 l1 l2 l4 l4) d_divisors d_divisorsSize l4 l2))))))
set_option maxHeartbeats 4000000 in
set_option maxRecDepth 100000 in
theorem s_X0_listDivisors_10 {X : Cx} (g : Gd X cX0_listDivisors RX0 none 5) (hR : X.R = rmL 2 0 0) (hX0 : Nat) (aX0_divisors : Nat) (aX0_reachable : Nat) (aX0_fewest : Nat) (aX0_takes : Nat) (aX0_chosen : Nat) (d_size : Int) (d_askedP : Int) (d_askedQ : Int) (d_factor : Int) (Q : (Int → Int) → Int → Prop) (hF : FQ X 0 0 (po_X0_listDivisors X.cI X.cJ hX0 aX0_divisors aX0_reachable aX0_fewest aX0_takes aX0_chosen d_size d_askedP d_askedQ d_factor Q)) : ∀ (n : Nat) (d_divisors : Int → Int) (d_divisorsSize : Int) (l1 : Int) (l2 : Int) (l3 : Int) (l4 : Int), rr32 d_divisors → r32 d_divisorsSize → r32 l1 → r32 l2 → r32 l3 → r32 l4 → wp_X0_listDivisors_10 Q n d_divisors d_divisorsSize l1 l2 l3 l4 → Wat X 0 0 10 [(0, .ref hX0), (1, .int (i32 l1)), (2, .int (i32 l2)), (3, .int (i32 l3)), (4, .int (i32 l4))] [] [(hX0, .inr (0, [.ref aX0_divisors, .ref aX0_reachable, .ref aX0_fewest, .ref aX0_takes, .ref aX0_chosen, .int (i32 d_divisorsSize), .int (i32 d_size), .int (i32 d_askedP), .int (i32 d_askedQ), .int (i32 d_factor)])), (aX0_divisors, aI X.cI 48 d_divisors)] := by
  intro n
  induction n with
  | zero => intro d_divisors d_divisorsSize l1 l2 l3 l4 r_d_divisors r_d_divisorsSize r_l1 r_l2 r_l3 r_l4 h; exact False.elim h
  | succ n ih =>
    intro d_divisors d_divisorsSize l1 l2 l3 l4 r_d_divisors r_d_divisorsSize r_l1 r_l2 r_l3 r_l4 h
    rw [wp_X0_listDivisors_10] at h
    refine q_iload g 4 4 rfl dX0_listDivisors_10 ?_
    refine q_iload_n g 1 1 rfl dX0_listDivisors_12 ?_
    refine q_iload g 4 4 rfl dX0_listDivisors_13 ?_
    obtain ⟨c15, h⟩ := h
    refine q_idiv g r_l1 r_l4 (ne_of_pos c15) dX0_listDivisors_15 ?_
    refine q_icmp_gt g (26) 42 r_l4 (r32_tdiv r_l1 c15) (by decide) dX0_listDivisors_16 (fun b16 => ?_) (fun b16 => ?_)
    · replace h := h.1 b16
      refine q_iload_n g 3 3 rfl dX0_listDivisors_42 ?_
      refine q_istore (lv' := [(4, .int (i32 l3)), (0, .ref hX0), (1, .int (i32 l1)), (2, .int (i32 l2)), (3, .int (i32 l3))]) g 4   (by decide) rfl dX0_listDivisors_43 ?_
      refine q_lv (lv' := [(0, .ref hX0), (1, .int (i32 l1)), (2, .int (i32 l2)), (3, .int (i32 l3)), (4, .int (i32 l3))]) [1, 2, 3, 4, 0] rfl ?_
      obtain ⟨n0, h⟩ := h
      exact s_X0_listDivisors_45 g hR hX0 aX0_divisors aX0_reachable aX0_fewest aX0_takes aX0_chosen d_size d_askedP d_askedQ d_factor Q hF n0 d_divisors d_divisorsSize l1 l2 l3 l3 r_d_divisors r_d_divisorsSize r_l1 r_l2 r_l3 r_l3 h
    replace h := h.2 b16
    refine q_iload g 4 4 rfl dX0_listDivisors_19 ?_
    refine q_istore_n (lv' := [(3, .int (i32 l4)), (0, .ref hX0), (1, .int (i32 l1)), (2, .int (i32 l2)), (4, .int (i32 l4))]) g 3 3 rfl (by decide) rfl dX0_listDivisors_21 ?_
    refine q_iload_n g 1 2 rfl dX0_listDivisors_22 ?_
    refine q_iload g 4 4 rfl dX0_listDivisors_23 ?_
    obtain ⟨c25, h⟩ := h
    refine q_irem g r_l1 r_l4 (ne_of_pos c25) dX0_listDivisors_25 ?_
    refine q_if_ne g (10) 36 (r32_tmod r_l1 r_l4 (ne_of_pos c25)) (by decide) dX0_listDivisors_26 (fun b26 => ?_) (fun b26 => ?_)
    · replace h := h.1 b26
      refine q_lv (lv' := [(0, .ref hX0), (1, .int (i32 l1)), (2, .int (i32 l2)), (3, .int (i32 l4)), (4, .int (i32 l4))]) [1, 2, 3, 0, 4] rfl ?_
      exact s_X0_listDivisors_36 g hR hX0 aX0_divisors aX0_reachable aX0_fewest aX0_takes aX0_chosen d_size d_askedP d_askedQ d_factor Q hF (wp_X0_listDivisors_10 Q n) (fun v0 v1 v2 v3 v4 v5 w0 w1 w2 w3 w4 w5 hh => ih v0 v1 v2 v3 v4 v5 w0 w1 w2 w3 w4 w5 hh) d_divisors d_divisorsSize l1 l2 l4 l4 r_d_divisors r_d_divisorsSize r_l1 r_l2 r_l4 r_l4 h
    replace h := h.2 b26
    refine q_aload_n g 0 1 rfl dX0_listDivisors_29 ?_
    refine q_iload g 4 4 rfl dX0_listDivisors_30 ?_
    refine q_iload_n g 2 3 rfl dX0_listDivisors_32 ?_
    refine q_callV (lev := 1) (mc := 0) (ms := 0) g 60 (c_X0_addDivisor X.l X.D X.cI X.cJ X.zt hX0 aX0_divisors aX0_reachable aX0_fewest aX0_takes aX0_chosen d_divisorsSize d_size d_askedP d_askedQ d_factor d_divisors l4 l2 _ r_d_divisors r_d_divisorsSize r_l4 r_l2 h) (wr := []) [0, 1] [] rfl rfl rfl (by decide) (by decide) (by decide) (ci := 0) rfl rfl rfl wM_X0_60 wI_X0_addDivisor wS_X0_addDivisor wZ_X0 wC_X0_addDivisor 2 rfl (by decide +kernel) (by rw [hR]; exact ⟨by show 1 + 1 ≤ 2; omega, by show 8 + (3 + 11) + 100 * 1 ≤ 100 * 2; omega⟩) (by rw [hR]; exact ⟨Nat.le_refl _, Nat.le_refl _⟩) (Nat.le_of_ble_eq_true rfl) rfl dX0_listDivisors_33 (fun rv w1 hq => ?_)
    obtain ⟨d_divisors_33, d_divisorsSize_33, rfl, rfl, rd_divisors_33, rd_divisorsSize_33, h⟩ := hq
    show Wat X 0 0 36 [(3, .int (i32 l4)), (0, .ref hX0), (1, .int (i32 l1)), (2, .int (i32 l2)), (4, .int (i32 l4))] [] [(hX0, .inr (0, [.ref aX0_divisors, .ref aX0_reachable, .ref aX0_fewest, .ref aX0_takes, .ref aX0_chosen, .int (i32 d_divisorsSize_33), .int (i32 d_size), .int (i32 d_askedP), .int (i32 d_askedQ), .int (i32 d_factor)])), (aX0_divisors, aI X.cI 48 d_divisors_33)]
    refine q_lv (lv' := [(0, .ref hX0), (1, .int (i32 l1)), (2, .int (i32 l2)), (3, .int (i32 l4)), (4, .int (i32 l4))]) [1, 2, 3, 0, 4] rfl ?_
    exact s_X0_listDivisors_36 g hR hX0 aX0_divisors aX0_reachable aX0_fewest aX0_takes aX0_chosen d_size d_askedP d_askedQ d_factor Q hF (wp_X0_listDivisors_10 Q n) (fun v0 v1 v2 v3 v4 v5 w0 w1 w2 w3 w4 w5 hh => ih v0 v1 v2 v3 v4 v5 w0 w1 w2 w3 w4 w5 hh) d_divisors_33 d_divisorsSize_33 l1 l2 l4 l4 rd_divisors_33 rd_divisorsSize_33 r_l1 r_l2 r_l4 r_l4 h
def wp_X0_listDivisors (Q : (Int → Int) → Int → Prop) (d_divisors : Int → Int) (d_divisorsSize : Int) (l1 : Int) (l2 : Int) : Prop := (∃ n0 : Nat, wp_X0_listDivisors_10 Q n0 d_divisors 0 l1 l2 0 1)
set_option maxHeartbeats 4000000 in
set_option maxRecDepth 100000 in
theorem c_X0_listDivisors (l : Launch) (D : va_G) (cI cJ : ClassId) (zt : Nat) (hX0 : Nat) (aX0_divisors : Nat) (aX0_reachable : Nat) (aX0_fewest : Nat) (aX0_takes : Nat) (aX0_chosen : Nat) (d_divisorsSize : Int) (d_size : Int) (d_askedP : Int) (d_askedQ : Int) (d_factor : Int) (d_divisors : Int → Int) (l1 : Int) (l2 : Int) (Q : (Int → Int) → Int → Prop) (r_d_divisors : rr32 d_divisors) (r_d_divisorsSize : r32 d_divisorsSize) (r_l1 : r32 l1) (r_l2 : r32 l2) (h : wp_X0_listDivisors Q d_divisors d_divisorsSize l1 l2) : Ct l D cI cJ zt yX0_listDivisors cX0_listDivisors 5 none 2 0 0 [.ref hX0, .int (i32 l1), .int (i32 l2)] [(hX0, .inr (0, [.ref aX0_divisors, .ref aX0_reachable, .ref aX0_fewest, .ref aX0_takes, .ref aX0_chosen, .int (i32 d_divisorsSize), .int (i32 d_size), .int (i32 d_askedP), .int (i32 d_askedQ), .int (i32 d_factor)])), (aX0_divisors, aI cI 48 d_divisors)] (po_X0_listDivisors cI cJ hX0 aX0_divisors aX0_reachable aX0_fewest aX0_takes aX0_chosen d_size d_askedP d_askedQ d_factor Q) := by
  refine ct_of (by decide +kernel) (Nat.le_of_ble_eq_true rfl) (fun X hl hDD hcI hcJ hzt hR hF hnm g => ?_)
  subst hl; subst hDD; subst hcI; subst hcJ; subst hzt
  show Wat X 0 0 0 [(0, .ref hX0), (1, .int (i32 l1)), (2, .int (i32 l2))] [] [(hX0, .inr (0, [.ref aX0_divisors, .ref aX0_reachable, .ref aX0_fewest, .ref aX0_takes, .ref aX0_chosen, .int (i32 d_divisorsSize), .int (i32 d_size), .int (i32 d_askedP), .int (i32 d_askedQ), .int (i32 d_factor)])), (aX0_divisors, aI X.cI 48 d_divisors)]
  replace g : Gd X cX0_listDivisors RX0 none 5 := g
  rw [wp_X0_listDivisors] at h
  refine q_aload_n g 0 0 rfl dX0_listDivisors_0 ?_
  refine q_iconst g (0) dX0_listDivisors_1 ?_
  refine q_put (C := RX0) (T := TX0) (N := 10) (ty := .int) (ws' := [(hX0, .inr (0, [.ref aX0_divisors, .ref aX0_reachable, .ref aX0_fewest, .ref aX0_takes, .ref aX0_chosen, .int (i32 0), .int (i32 d_size), .int (i32 d_askedP), .int (i32 d_askedQ), .int (i32 d_factor)])), (aX0_divisors, aI X.cI 48 d_divisors)]) g 57 inX0 tyX0_ok nmX0 0 5 rfl rfl (by decide) wF_X0_57 rfl rfl rfl rfl (Nat.le_of_ble_eq_true rfl) rfl dX0_listDivisors_2 ?_
  refine q_iconst g (0) dX0_listDivisors_5 ?_
  refine q_istore_n (lv' := [(3, .int (i32 0)), (0, .ref hX0), (1, .int (i32 l1)), (2, .int (i32 l2))]) g 3 3 rfl (by decide) rfl dX0_listDivisors_6 ?_
  refine q_iconst g (1) dX0_listDivisors_7 ?_
  refine q_istore (lv' := [(4, .int (i32 1)), (3, .int (i32 0)), (0, .ref hX0), (1, .int (i32 l1)), (2, .int (i32 l2))]) g 4   (by decide) rfl dX0_listDivisors_8 ?_
  refine q_lv (lv' := [(0, .ref hX0), (1, .int (i32 l1)), (2, .int (i32 l2)), (3, .int (i32 0)), (4, .int (i32 1))]) [2, 3, 4, 1, 0] rfl ?_
  obtain ⟨n0, h⟩ := h
  exact s_X0_listDivisors_10 g hR hX0 aX0_divisors aX0_reachable aX0_fewest aX0_takes aX0_chosen d_size d_askedP d_askedQ d_factor Q hF n0 d_divisors 0 l1 l2 0 1 r_d_divisors (r32_lit _ (by decide)) r_l1 r_l2 (r32_lit _ (by decide)) (r32_lit _ (by decide)) h
theorem dX0_findFactor_0 : decode cX0_findFactor 0 = .ok (.iconst 1, 1) := by decide +kernel
theorem dX0_findFactor_1 : decode cX0_findFactor 1 = .ok (.istore_n 3, 1) := by decide +kernel
theorem dX0_findFactor_2 : decode cX0_findFactor 2 = .ok (.iload_n 3, 1) := by decide +kernel
theorem dX0_findFactor_3 : decode cX0_findFactor 3 = .ok (.sipush 200, 3) := by decide +kernel
theorem dX0_findFactor_6 : decode cX0_findFactor 6 = .ok (.if_icmp .gt 50, 3) := by decide +kernel
theorem dX0_findFactor_9 : decode cX0_findFactor 9 = .ok (.iload_n 2, 1) := by decide +kernel
theorem dX0_findFactor_10 : decode cX0_findFactor 10 = .ok (.sipush 5000, 3) := by decide +kernel
theorem dX0_findFactor_13 : decode cX0_findFactor 13 = .ok (.iload_n 3, 1) := by decide +kernel
theorem dX0_findFactor_14 : decode cX0_findFactor 14 = .ok (.idiv, 1) := by decide +kernel
theorem dX0_findFactor_15 : decode cX0_findFactor 15 = .ok (.if_icmp .le 6, 3) := by decide +kernel
theorem dX0_findFactor_18 : decode cX0_findFactor 18 = .ok (.bipush (-5), 2) := by decide +kernel
theorem dX0_findFactor_20 : decode cX0_findFactor 20 = .ok (.ireturn, 1) := by decide +kernel
theorem dX0_findFactor_21 : decode cX0_findFactor 21 = .ok (.aload_n 0, 1) := by decide +kernel
theorem dX0_findFactor_22 : decode cX0_findFactor 22 = .ok (.iload_n 2, 1) := by decide +kernel
theorem dX0_findFactor_23 : decode cX0_findFactor 23 = .ok (.iload_n 3, 1) := by decide +kernel
theorem dX0_findFactor_24 : decode cX0_findFactor 24 = .ok (.imul, 1) := by decide +kernel
theorem dX0_findFactor_25 : decode cX0_findFactor 25 = .ok (.iload_n 1, 1) := by decide +kernel
theorem dX0_findFactor_26 : decode cX0_findFactor 26 = .ok (.iload_n 3, 1) := by decide +kernel
theorem dX0_findFactor_27 : decode cX0_findFactor 27 = .ok (.imul, 1) := by decide +kernel
theorem dX0_findFactor_28 : decode cX0_findFactor 28 = .ok (.invokevirtual 45, 3) := by decide +kernel
theorem dX0_findFactor_31 : decode cX0_findFactor 31 = .ok (.aload_n 0, 1) := by decide +kernel
theorem dX0_findFactor_32 : decode cX0_findFactor 32 = .ok (.iload_n 1, 1) := by decide +kernel
theorem dX0_findFactor_33 : decode cX0_findFactor 33 = .ok (.iload_n 3, 1) := by decide +kernel
theorem dX0_findFactor_34 : decode cX0_findFactor 34 = .ok (.imul, 1) := by decide +kernel
theorem dX0_findFactor_35 : decode cX0_findFactor 35 = .ok (.invokevirtual 49, 3) := by decide +kernel
theorem dX0_findFactor_38 : decode cX0_findFactor 38 = .ok (.ifCond .eq 12, 3) := by decide +kernel
theorem dX0_findFactor_41 : decode cX0_findFactor 41 = .ok (.aload_n 0, 1) := by decide +kernel
theorem dX0_findFactor_42 : decode cX0_findFactor 42 = .ok (.iload_n 1, 1) := by decide +kernel
theorem dX0_findFactor_43 : decode cX0_findFactor 43 = .ok (.iload_n 3, 1) := by decide +kernel
theorem dX0_findFactor_44 : decode cX0_findFactor 44 = .ok (.imul, 1) := by decide +kernel
theorem dX0_findFactor_45 : decode cX0_findFactor 45 = .ok (.invokevirtual 53, 3) := by decide +kernel
theorem dX0_findFactor_48 : decode cX0_findFactor 48 = .ok (.iload_n 3, 1) := by decide +kernel
theorem dX0_findFactor_49 : decode cX0_findFactor 49 = .ok (.ireturn, 1) := by decide +kernel
theorem dX0_findFactor_50 : decode cX0_findFactor 50 = .ok (.iinc 3 1, 3) := by decide +kernel
theorem dX0_findFactor_53 : decode cX0_findFactor 53 = .ok (.goto (-51), 3) := by decide +kernel
theorem dX0_findFactor_56 : decode cX0_findFactor 56 = .ok (.bipush (-4), 2) := by decide +kernel
theorem dX0_findFactor_58 : decode cX0_findFactor 58 = .ok (.ireturn, 1) := by decide +kernel
abbrev po_X0_findFactor (cI cJ : ClassId) (hX0 : Nat) (aX0_divisors : Nat) (aX0_reachable : Nat) (aX0_fewest : Nat) (aX0_takes : Nat) (aX0_chosen : Nat) (d_askedP : Int) (d_askedQ : Int) (d_factor : Int) (Q : Int → (Int → Int) → (Int → Int) → (Int → Int) → (Int → Int) → (Int → Int) → Int → Int → Prop) : Option Value → va_W → Prop := fun rv w1 => ∃ (r0 : Int) (d_divisors : Int → Int) (d_reachable : Int → Int) (d_fewest : Int → Int) (d_takes : Int → Int) (d_chosen : Int → Int) (d_divisorsSize : Int) (d_size : Int), rv = some (.int (i32 r0)) ∧ w1 = [(hX0, .inr (0, [.ref aX0_divisors, .ref aX0_reachable, .ref aX0_fewest, .ref aX0_takes, .ref aX0_chosen, .int (i32 d_divisorsSize), .int (i32 d_size), .int (i32 d_askedP), .int (i32 d_askedQ), .int (i32 d_factor)])), (aX0_divisors, aI cI 48 d_divisors), (aX0_reachable, aL cJ 79 d_reachable), (aX0_fewest, aI cI 5001 d_fewest), (aX0_takes, aL cJ 5001 d_takes), (aX0_chosen, aI cI 48 d_chosen)] ∧ r32 r0 ∧ rr32 d_divisors ∧ rr64 d_reachable ∧ rr32 d_fewest ∧ rr64 d_takes ∧ rr32 d_chosen ∧ r32 d_divisorsSize ∧ r32 d_size ∧ Q r0 d_divisors d_reachable d_fewest d_takes d_chosen d_divisorsSize d_size
def wp_X0_findFactor_2 (Q : Int → (Int → Int) → (Int → Int) → (Int → Int) → (Int → Int) → (Int → Int) → Int → Int → Prop) : Nat → (Int → Int) → (Int → Int) → (Int → Int) → (Int → Int) → (Int → Int) → Int → Int → Int → Int → Int → Prop
  | 0, _, _, _, _, _, _, _, _, _, _ => False
  | n + 1, d_divisors, d_reachable, d_fewest, d_takes, d_chosen, d_divisorsSize, d_size, l1, l2, l3 => ((200 < l3 → Q (-4) d_divisors d_reachable d_fewest d_takes d_chosen d_divisorsSize d_size) ∧
  (¬ (200 < l3) → (0 < l3 ∧ ((l2 ≤ (Int.tdiv 5000 l3) → (r32 (l2 * l3) ∧ r32 (l1 * l3) ∧ wp_X0_listDivisors (fun (d_divisors_28 : Int → Int) (d_divisorsSize_28 : Int) => (r32 (l1 * l3) ∧ wp_X0_canMake (fun (x35 : Int) (d_reachable_35 : Int → Int) => ((x35 = 0 → (r32 (l3 + 1) ∧ wp_X0_findFactor_2 Q n d_divisors_28 d_reachable_35 d_fewest d_takes d_chosen d_divisorsSize_28 d_size l1 l2 (l3 + 1))) ∧
  (¬ (x35 = 0) → (r32 (l1 * l3) ∧ wp_X0_choose (fun (d_fewest_45 : Int → Int) (d_takes_45 : Int → Int) (d_chosen_45 : Int → Int) (d_size_45 : Int) => Q l3 d_divisors_28 d_reachable_35 d_fewest_45 d_takes_45 d_chosen_45 d_divisorsSize_28 d_size_45) d_divisors_28 d_fewest d_takes d_chosen d_divisorsSize_28 d_size (l1 * l3))))) d_divisors_28 d_reachable d_divisorsSize_28 (l1 * l3))) d_divisors d_divisorsSize (l2 * l3) (l1 * l3))) ∧
  (¬ (l2 ≤ (Int.tdiv 5000 l3)) → Q (-5) d_divisors d_reachable d_fewest d_takes d_chosen d_divisorsSize d_size)))))
set_option maxHeartbeats 4000000 in
set_option maxRecDepth 100000 in
theorem s_X0_findFactor_2 {X : Cx} (g : Gd X cX0_findFactor RX0 (some .int) 4) (hR : X.R = rmL 3 0 0) (hX0 : Nat) (aX0_divisors : Nat) (aX0_reachable : Nat) (aX0_fewest : Nat) (aX0_takes : Nat) (aX0_chosen : Nat) (d_askedP : Int) (d_askedQ : Int) (d_factor : Int) (Q : Int → (Int → Int) → (Int → Int) → (Int → Int) → (Int → Int) → (Int → Int) → Int → Int → Prop) (hF : FQ X 0 0 (po_X0_findFactor X.cI X.cJ hX0 aX0_divisors aX0_reachable aX0_fewest aX0_takes aX0_chosen d_askedP d_askedQ d_factor Q)) : ∀ (n : Nat) (d_divisors : Int → Int) (d_reachable : Int → Int) (d_fewest : Int → Int) (d_takes : Int → Int) (d_chosen : Int → Int) (d_divisorsSize : Int) (d_size : Int) (l1 : Int) (l2 : Int) (l3 : Int), rr32 d_divisors → rr64 d_reachable → rr32 d_fewest → rr64 d_takes → rr32 d_chosen → r32 d_divisorsSize → r32 d_size → r32 l1 → r32 l2 → r32 l3 → wp_X0_findFactor_2 Q n d_divisors d_reachable d_fewest d_takes d_chosen d_divisorsSize d_size l1 l2 l3 → Wat X 0 0 2 [(0, .ref hX0), (1, .int (i32 l1)), (2, .int (i32 l2)), (3, .int (i32 l3))] [] [(hX0, .inr (0, [.ref aX0_divisors, .ref aX0_reachable, .ref aX0_fewest, .ref aX0_takes, .ref aX0_chosen, .int (i32 d_divisorsSize), .int (i32 d_size), .int (i32 d_askedP), .int (i32 d_askedQ), .int (i32 d_factor)])), (aX0_divisors, aI X.cI 48 d_divisors), (aX0_reachable, aL X.cJ 79 d_reachable), (aX0_fewest, aI X.cI 5001 d_fewest), (aX0_takes, aL X.cJ 5001 d_takes), (aX0_chosen, aI X.cI 48 d_chosen)] := by
  intro n
  induction n with
  | zero => intro d_divisors d_reachable d_fewest d_takes d_chosen d_divisorsSize d_size l1 l2 l3 r_d_divisors r_d_reachable r_d_fewest r_d_takes r_d_chosen r_d_divisorsSize r_d_size r_l1 r_l2 r_l3 h; exact False.elim h
  | succ n ih =>
    intro d_divisors d_reachable d_fewest d_takes d_chosen d_divisorsSize d_size l1 l2 l3 r_d_divisors r_d_reachable r_d_fewest r_d_takes r_d_chosen r_d_divisorsSize r_d_size r_l1 r_l2 r_l3 h
    rw [wp_X0_findFactor_2] at h
    refine q_iload_n g 3 3 rfl dX0_findFactor_2 ?_
    refine q_sipush g (200) (by decide) (by decide) dX0_findFactor_3 ?_
    refine q_icmp_gt g (50) 56 r_l3 (r32_lit _ (by decide)) (by decide) dX0_findFactor_6 (fun b6 => ?_) (fun b6 => ?_)
    · replace h := h.1 b6
      refine q_bipush g (-4) (by decide) (by decide) dX0_findFactor_56 ?_
      exact q_iret g hF ⟨(-4), d_divisors, d_reachable, d_fewest, d_takes, d_chosen, d_divisorsSize, d_size, rfl, rfl, (r32_lit _ (by decide)), r_d_divisors, r_d_reachable, r_d_fewest, r_d_takes, r_d_chosen, r_d_divisorsSize, r_d_size, h⟩ dX0_findFactor_58
    replace h := h.2 b6
    refine q_iload_n g 2 2 rfl dX0_findFactor_9 ?_
    refine q_sipush g (5000) (by decide) (by decide) dX0_findFactor_10 ?_
    refine q_iload_n g 3 3 rfl dX0_findFactor_13 ?_
    obtain ⟨c14, h⟩ := h
    refine q_idiv g (r32_lit _ (by decide)) r_l3 (ne_of_pos c14) dX0_findFactor_14 ?_
    refine q_icmp_le g (6) 21 r_l2 (r32_tdiv (r32_lit _ (by decide)) c14) (by decide) dX0_findFactor_15 (fun b15 => ?_) (fun b15 => ?_)
    · replace h := h.1 b15
      refine q_aload_n g 0 0 rfl dX0_findFactor_21 ?_
      refine q_iload_n g 2 2 rfl dX0_findFactor_22 ?_
      refine q_iload_n g 3 3 rfl dX0_findFactor_23 ?_
      obtain ⟨c24, h⟩ := h
      refine q_imul g dX0_findFactor_24 ?_
      refine q_iload_n g 1 1 rfl dX0_findFactor_25 ?_
      refine q_iload_n g 3 3 rfl dX0_findFactor_26 ?_
      obtain ⟨c27, h⟩ := h
      refine q_imul g dX0_findFactor_27 ?_
      refine q_callV (lev := 2) (mc := 0) (ms := 0) g 45 (c_X0_listDivisors X.l X.D X.cI X.cJ X.zt hX0 aX0_divisors aX0_reachable aX0_fewest aX0_takes aX0_chosen d_divisorsSize d_size d_askedP d_askedQ d_factor d_divisors (l2 * l3) (l1 * l3) _ r_d_divisors r_d_divisorsSize c24 c27 h) (wr := [(aX0_reachable, aL X.cJ 79 d_reachable), (aX0_fewest, aI X.cI 5001 d_fewest), (aX0_takes, aL X.cJ 5001 d_takes), (aX0_chosen, aI X.cI 48 d_chosen)]) [0, 1] [2, 3, 4, 5] rfl rfl rfl (by decide) (by decide) (by decide) (ci := 0) rfl rfl rfl wM_X0_45 wI_X0_listDivisors wS_X0_listDivisors wZ_X0 wC_X0_listDivisors 2 rfl (by decide +kernel) (by rw [hR]; exact ⟨by show 2 + 1 ≤ 3; omega, by show 8 + (5 + 11) + 100 * 2 ≤ 100 * 3; omega⟩) (by rw [hR]; exact ⟨Nat.le_refl _, Nat.le_refl _⟩) (Nat.le_of_ble_eq_true rfl) rfl dX0_findFactor_28 (fun rv w1 hq => ?_)
      obtain ⟨d_divisors_28, d_divisorsSize_28, rfl, rfl, rd_divisors_28, rd_divisorsSize_28, h⟩ := hq
      refine q_ws (ws' := [(hX0, .inr (0, [.ref aX0_divisors, .ref aX0_reachable, .ref aX0_fewest, .ref aX0_takes, .ref aX0_chosen, .int (i32 d_divisorsSize_28), .int (i32 d_size), .int (i32 d_askedP), .int (i32 d_askedQ), .int (i32 d_factor)])), (aX0_divisors, aI X.cI 48 d_divisors_28), (aX0_reachable, aL X.cJ 79 d_reachable), (aX0_fewest, aI X.cI 5001 d_fewest), (aX0_takes, aL X.cJ 5001 d_takes), (aX0_chosen, aI X.cI 48 d_chosen)]) [4, 5, 0, 1, 2, 3] (by decide) rfl rfl ?_
      show Wat X 0 0 31 [(0, .ref hX0), (1, .int (i32 l1)), (2, .int (i32 l2)), (3, .int (i32 l3))] [] [(hX0, .inr (0, [.ref aX0_divisors, .ref aX0_reachable, .ref aX0_fewest, .ref aX0_takes, .ref aX0_chosen, .int (i32 d_divisorsSize_28), .int (i32 d_size), .int (i32 d_askedP), .int (i32 d_askedQ), .int (i32 d_factor)])), (aX0_divisors, aI X.cI 48 d_divisors_28), (aX0_reachable, aL X.cJ 79 d_reachable), (aX0_fewest, aI X.cI 5001 d_fewest), (aX0_takes, aL X.cJ 5001 d_takes), (aX0_chosen, aI X.cI 48 d_chosen)]
      refine q_aload_n g 0 0 rfl dX0_findFactor_31 ?_
      refine q_iload_n g 1 1 rfl dX0_findFactor_32 ?_
      refine q_iload_n g 3 3 rfl dX0_findFactor_33 ?_
      obtain ⟨c34, h⟩ := h
      refine q_imul g dX0_findFactor_34 ?_
      refine q_callV (lev := 2) (mc := 0) (ms := 0) g 49 (c_X0_canMake X.l X.D X.cI X.cJ X.zt hX0 aX0_divisors aX0_reachable aX0_fewest aX0_takes aX0_chosen d_divisorsSize_28 d_size d_askedP d_askedQ d_factor d_divisors_28 d_reachable (l1 * l3) _ rd_divisors_28 r_d_reachable rd_divisorsSize_28 c34 h) (wr := [(aX0_fewest, aI X.cI 5001 d_fewest), (aX0_takes, aL X.cJ 5001 d_takes), (aX0_chosen, aI X.cI 48 d_chosen)]) [0, 1, 2] [3, 4, 5] rfl rfl rfl (by decide) (by decide) (by decide) (ci := 0) rfl rfl rfl wM_X0_49 wI_X0_canMake wS_X0_canMake wZ_X0 wC_X0_canMake 1 rfl (by decide +kernel) (by rw [hR]; exact ⟨by show 2 + 1 ≤ 3; omega, by show 8 + (5 + 11) + 100 * 2 ≤ 100 * 3; omega⟩) (by rw [hR]; exact ⟨Nat.le_refl _, Nat.le_refl _⟩) (Nat.le_of_ble_eq_true rfl) rfl dX0_findFactor_35 (fun rv w1 hq => ?_)
      obtain ⟨x35, d_reachable_35, rfl, rfl, rx35, rd_reachable_35, h⟩ := hq
      refine q_ws (ws' := [(hX0, .inr (0, [.ref aX0_divisors, .ref aX0_reachable, .ref aX0_fewest, .ref aX0_takes, .ref aX0_chosen, .int (i32 d_divisorsSize_28), .int (i32 d_size), .int (i32 d_askedP), .int (i32 d_askedQ), .int (i32 d_factor)])), (aX0_divisors, aI X.cI 48 d_divisors_28), (aX0_reachable, aL X.cJ 79 d_reachable_35), (aX0_fewest, aI X.cI 5001 d_fewest), (aX0_takes, aL X.cJ 5001 d_takes), (aX0_chosen, aI X.cI 48 d_chosen)]) [3, 4, 5, 0, 1, 2] (by decide) rfl rfl ?_
      show Wat X 0 0 38 [(0, .ref hX0), (1, .int (i32 l1)), (2, .int (i32 l2)), (3, .int (i32 l3))] [.int (i32 x35)] [(hX0, .inr (0, [.ref aX0_divisors, .ref aX0_reachable, .ref aX0_fewest, .ref aX0_takes, .ref aX0_chosen, .int (i32 d_divisorsSize_28), .int (i32 d_size), .int (i32 d_askedP), .int (i32 d_askedQ), .int (i32 d_factor)])), (aX0_divisors, aI X.cI 48 d_divisors_28), (aX0_reachable, aL X.cJ 79 d_reachable_35), (aX0_fewest, aI X.cI 5001 d_fewest), (aX0_takes, aL X.cJ 5001 d_takes), (aX0_chosen, aI X.cI 48 d_chosen)]
      refine q_if_eq g (12) 50 rx35 (by decide) dX0_findFactor_38 (fun b38 => ?_) (fun b38 => ?_)
      · replace h := h.1 b38
        obtain ⟨c50, h⟩ := h
        refine q_iinc (lv' := [(3, .int (i32 (l3 + 1))), (0, .ref hX0), (1, .int (i32 l1)), (2, .int (i32 l2))]) g 3 3 1 (by decide) rfl rfl dX0_findFactor_50 ?_
        refine q_goto g (-51) 2 (by decide) dX0_findFactor_53 ?_
        refine q_lv (lv' := [(0, .ref hX0), (1, .int (i32 l1)), (2, .int (i32 l2)), (3, .int (i32 (l3 + 1)))]) [1, 2, 3, 0] rfl ?_
        exact ih d_divisors_28 d_reachable_35 d_fewest d_takes d_chosen d_divisorsSize_28 d_size l1 l2 (l3 + 1) rd_divisors_28 rd_reachable_35 r_d_fewest r_d_takes r_d_chosen rd_divisorsSize_28 r_d_size r_l1 r_l2 c50 h
      replace h := h.2 b38
      refine q_aload_n g 0 0 rfl dX0_findFactor_41 ?_
      refine q_iload_n g 1 1 rfl dX0_findFactor_42 ?_
      refine q_iload_n g 3 3 rfl dX0_findFactor_43 ?_
      obtain ⟨c44, h⟩ := h
      refine q_imul g dX0_findFactor_44 ?_
      refine q_callV (lev := 2) (mc := 0) (ms := 0) g 53 (c_X0_choose X.l X.D X.cI X.cJ X.zt hX0 aX0_divisors aX0_reachable aX0_fewest aX0_takes aX0_chosen d_divisorsSize_28 d_size d_askedP d_askedQ d_factor d_divisors_28 d_fewest d_takes d_chosen (l1 * l3) _ rd_divisors_28 r_d_fewest r_d_takes r_d_chosen rd_divisorsSize_28 r_d_size c44 h) (wr := [(aX0_reachable, aL X.cJ 79 d_reachable_35)]) [0, 1, 3, 4, 5] [2] rfl rfl rfl (by decide) (by decide) (by decide) (ci := 0) rfl rfl rfl wM_X0_53 wI_X0_choose wS_X0_choose wZ_X0 wC_X0_choose 1 rfl (by decide +kernel) (by rw [hR]; exact ⟨by show 2 + 1 ≤ 3; omega, by show 8 + (6 + 11) + 100 * 2 ≤ 100 * 3; omega⟩) (by rw [hR]; exact ⟨Nat.le_refl _, Nat.le_refl _⟩) (Nat.le_of_ble_eq_true rfl) rfl dX0_findFactor_45 (fun rv w1 hq => ?_)
      obtain ⟨d_fewest_45, d_takes_45, d_chosen_45, d_size_45, rfl, rfl, rd_fewest_45, rd_takes_45, rd_chosen_45, rd_size_45, h⟩ := hq
      refine q_ws (ws' := [(hX0, .inr (0, [.ref aX0_divisors, .ref aX0_reachable, .ref aX0_fewest, .ref aX0_takes, .ref aX0_chosen, .int (i32 d_divisorsSize_28), .int (i32 d_size_45), .int (i32 d_askedP), .int (i32 d_askedQ), .int (i32 d_factor)])), (aX0_divisors, aI X.cI 48 d_divisors_28), (aX0_reachable, aL X.cJ 79 d_reachable_35), (aX0_fewest, aI X.cI 5001 d_fewest_45), (aX0_takes, aL X.cJ 5001 d_takes_45), (aX0_chosen, aI X.cI 48 d_chosen_45)]) [1, 2, 0, 3, 4, 5] (by decide) rfl rfl ?_
      show Wat X 0 0 48 [(0, .ref hX0), (1, .int (i32 l1)), (2, .int (i32 l2)), (3, .int (i32 l3))] [] [(hX0, .inr (0, [.ref aX0_divisors, .ref aX0_reachable, .ref aX0_fewest, .ref aX0_takes, .ref aX0_chosen, .int (i32 d_divisorsSize_28), .int (i32 d_size_45), .int (i32 d_askedP), .int (i32 d_askedQ), .int (i32 d_factor)])), (aX0_divisors, aI X.cI 48 d_divisors_28), (aX0_reachable, aL X.cJ 79 d_reachable_35), (aX0_fewest, aI X.cI 5001 d_fewest_45), (aX0_takes, aL X.cJ 5001 d_takes_45), (aX0_chosen, aI X.cI 48 d_chosen_45)]
      refine q_iload_n g 3 3 rfl dX0_findFactor_48 ?_
      exact q_iret g hF ⟨l3, d_divisors_28, d_reachable_35, d_fewest_45, d_takes_45, d_chosen_45, d_divisorsSize_28, d_size_45, rfl, rfl, r_l3, rd_divisors_28, rd_reachable_35, rd_fewest_45, rd_takes_45, rd_chosen_45, rd_divisorsSize_28, rd_size_45, h⟩ dX0_findFactor_49
    replace h := h.2 b15
    refine q_bipush g (-5) (by decide) (by decide) dX0_findFactor_18 ?_
    exact q_iret g hF ⟨(-5), d_divisors, d_reachable, d_fewest, d_takes, d_chosen, d_divisorsSize, d_size, rfl, rfl, (r32_lit _ (by decide)), r_d_divisors, r_d_reachable, r_d_fewest, r_d_takes, r_d_chosen, r_d_divisorsSize, r_d_size, h⟩ dX0_findFactor_20
def wp_X0_findFactor (Q : Int → (Int → Int) → (Int → Int) → (Int → Int) → (Int → Int) → (Int → Int) → Int → Int → Prop) (d_divisors : Int → Int) (d_reachable : Int → Int) (d_fewest : Int → Int) (d_takes : Int → Int) (d_chosen : Int → Int) (d_divisorsSize : Int) (d_size : Int) (l1 : Int) (l2 : Int) : Prop := (∃ n0 : Nat, wp_X0_findFactor_2 Q n0 d_divisors d_reachable d_fewest d_takes d_chosen d_divisorsSize d_size l1 l2 1)
set_option maxHeartbeats 4000000 in
set_option maxRecDepth 100000 in
theorem c_X0_findFactor (l : Launch) (D : va_G) (cI cJ : ClassId) (zt : Nat) (hX0 : Nat) (aX0_divisors : Nat) (aX0_reachable : Nat) (aX0_fewest : Nat) (aX0_takes : Nat) (aX0_chosen : Nat) (d_divisorsSize : Int) (d_size : Int) (d_askedP : Int) (d_askedQ : Int) (d_factor : Int) (d_divisors : Int → Int) (d_reachable : Int → Int) (d_fewest : Int → Int) (d_takes : Int → Int) (d_chosen : Int → Int) (l1 : Int) (l2 : Int) (Q : Int → (Int → Int) → (Int → Int) → (Int → Int) → (Int → Int) → (Int → Int) → Int → Int → Prop) (r_d_divisors : rr32 d_divisors) (r_d_reachable : rr64 d_reachable) (r_d_fewest : rr32 d_fewest) (r_d_takes : rr64 d_takes) (r_d_chosen : rr32 d_chosen) (r_d_divisorsSize : r32 d_divisorsSize) (r_d_size : r32 d_size) (r_l1 : r32 l1) (r_l2 : r32 l2) (h : wp_X0_findFactor Q d_divisors d_reachable d_fewest d_takes d_chosen d_divisorsSize d_size l1 l2) : Ct l D cI cJ zt yX0_findFactor cX0_findFactor 4 (some .int) 3 0 0 [.ref hX0, .int (i32 l1), .int (i32 l2)] [(hX0, .inr (0, [.ref aX0_divisors, .ref aX0_reachable, .ref aX0_fewest, .ref aX0_takes, .ref aX0_chosen, .int (i32 d_divisorsSize), .int (i32 d_size), .int (i32 d_askedP), .int (i32 d_askedQ), .int (i32 d_factor)])), (aX0_divisors, aI cI 48 d_divisors), (aX0_reachable, aL cJ 79 d_reachable), (aX0_fewest, aI cI 5001 d_fewest), (aX0_takes, aL cJ 5001 d_takes), (aX0_chosen, aI cI 48 d_chosen)] (po_X0_findFactor cI cJ hX0 aX0_divisors aX0_reachable aX0_fewest aX0_takes aX0_chosen d_askedP d_askedQ d_factor Q) := by
  refine ct_of (by decide +kernel) (Nat.le_of_ble_eq_true rfl) (fun X hl hDD hcI hcJ hzt hR hF hnm g => ?_)
  subst hl; subst hDD; subst hcI; subst hcJ; subst hzt
  show Wat X 0 0 0 [(0, .ref hX0), (1, .int (i32 l1)), (2, .int (i32 l2))] [] [(hX0, .inr (0, [.ref aX0_divisors, .ref aX0_reachable, .ref aX0_fewest, .ref aX0_takes, .ref aX0_chosen, .int (i32 d_divisorsSize), .int (i32 d_size), .int (i32 d_askedP), .int (i32 d_askedQ), .int (i32 d_factor)])), (aX0_divisors, aI X.cI 48 d_divisors), (aX0_reachable, aL X.cJ 79 d_reachable), (aX0_fewest, aI X.cI 5001 d_fewest), (aX0_takes, aL X.cJ 5001 d_takes), (aX0_chosen, aI X.cI 48 d_chosen)]
  replace g : Gd X cX0_findFactor RX0 (some .int) 4 := g
  rw [wp_X0_findFactor] at h
  refine q_iconst g (1) dX0_findFactor_0 ?_
  refine q_istore_n (lv' := [(3, .int (i32 1)), (0, .ref hX0), (1, .int (i32 l1)), (2, .int (i32 l2))]) g 3 3 rfl (by decide) rfl dX0_findFactor_1 ?_
  refine q_lv (lv' := [(0, .ref hX0), (1, .int (i32 l1)), (2, .int (i32 l2)), (3, .int (i32 1))]) [1, 2, 3, 0] rfl ?_
  obtain ⟨n0, h⟩ := h
  exact s_X0_findFactor_2 g hR hX0 aX0_divisors aX0_reachable aX0_fewest aX0_takes aX0_chosen d_askedP d_askedQ d_factor Q hF n0 d_divisors d_reachable d_fewest d_takes d_chosen d_divisorsSize d_size l1 l2 1 r_d_divisors r_d_reachable r_d_fewest r_d_takes r_d_chosen r_d_divisorsSize r_d_size r_l1 r_l2 (r32_lit _ (by decide)) h
theorem dX0_factorFor_0 : decode cX0_factorFor 0 = .ok (.iload_n 1, 1) := by decide +kernel
theorem dX0_factorFor_1 : decode cX0_factorFor 1 = .ok (.aload_n 0, 1) := by decide +kernel
theorem dX0_factorFor_2 : decode cX0_factorFor 2 = .ok (.getfield 28, 3) := by decide +kernel
theorem dX0_factorFor_5 : decode cX0_factorFor 5 = .ok (.if_icmp .ne 11, 3) := by decide +kernel
theorem dX0_factorFor_8 : decode cX0_factorFor 8 = .ok (.iload_n 2, 1) := by decide +kernel
theorem dX0_factorFor_9 : decode cX0_factorFor 9 = .ok (.aload_n 0, 1) := by decide +kernel
theorem dX0_factorFor_10 : decode cX0_factorFor 10 = .ok (.getfield 32, 3) := by decide +kernel
theorem dX0_factorFor_13 : decode cX0_factorFor 13 = .ok (.if_icmp .eq 28, 3) := by decide +kernel
theorem dX0_factorFor_16 : decode cX0_factorFor 16 = .ok (.aload_n 0, 1) := by decide +kernel
theorem dX0_factorFor_17 : decode cX0_factorFor 17 = .ok (.iload_n 1, 1) := by decide +kernel
theorem dX0_factorFor_18 : decode cX0_factorFor 18 = .ok (.putfield 28, 3) := by decide +kernel
theorem dX0_factorFor_21 : decode cX0_factorFor 21 = .ok (.aload_n 0, 1) := by decide +kernel
theorem dX0_factorFor_22 : decode cX0_factorFor 22 = .ok (.iload_n 2, 1) := by decide +kernel
theorem dX0_factorFor_23 : decode cX0_factorFor 23 = .ok (.putfield 32, 3) := by decide +kernel
theorem dX0_factorFor_26 : decode cX0_factorFor 26 = .ok (.aload_n 0, 1) := by decide +kernel
theorem dX0_factorFor_27 : decode cX0_factorFor 27 = .ok (.iconst 0, 1) := by decide +kernel
theorem dX0_factorFor_28 : decode cX0_factorFor 28 = .ok (.putfield 35, 3) := by decide +kernel
theorem dX0_factorFor_31 : decode cX0_factorFor 31 = .ok (.aload_n 0, 1) := by decide +kernel
theorem dX0_factorFor_32 : decode cX0_factorFor 32 = .ok (.aload_n 0, 1) := by decide +kernel
theorem dX0_factorFor_33 : decode cX0_factorFor 33 = .ok (.iload_n 1, 1) := by decide +kernel
theorem dX0_factorFor_34 : decode cX0_factorFor 34 = .ok (.iload_n 2, 1) := by decide +kernel
theorem dX0_factorFor_35 : decode cX0_factorFor 35 = .ok (.invokevirtual 38, 3) := by decide +kernel
theorem dX0_factorFor_38 : decode cX0_factorFor 38 = .ok (.putfield 42, 3) := by decide +kernel
theorem dX0_factorFor_41 : decode cX0_factorFor 41 = .ok (.aload_n 0, 1) := by decide +kernel
theorem dX0_factorFor_42 : decode cX0_factorFor 42 = .ok (.getfield 42, 3) := by decide +kernel
theorem dX0_factorFor_45 : decode cX0_factorFor 45 = .ok (.ireturn, 1) := by decide +kernel
abbrev po_X0_factorFor (cI cJ : ClassId) (hX0 : Nat) (aX0_divisors : Nat) (aX0_reachable : Nat) (aX0_fewest : Nat) (aX0_takes : Nat) (aX0_chosen : Nat) (Q : Int → (Int → Int) → (Int → Int) → (Int → Int) → (Int → Int) → (Int → Int) → Int → Int → Int → Int → Int → Prop) : Option Value → va_W → Prop := fun rv w1 => ∃ (r0 : Int) (d_divisors : Int → Int) (d_reachable : Int → Int) (d_fewest : Int → Int) (d_takes : Int → Int) (d_chosen : Int → Int) (d_divisorsSize : Int) (d_size : Int) (d_askedP : Int) (d_askedQ : Int) (d_factor : Int), rv = some (.int (i32 r0)) ∧ w1 = [(hX0, .inr (0, [.ref aX0_divisors, .ref aX0_reachable, .ref aX0_fewest, .ref aX0_takes, .ref aX0_chosen, .int (i32 d_divisorsSize), .int (i32 d_size), .int (i32 d_askedP), .int (i32 d_askedQ), .int (i32 d_factor)])), (aX0_divisors, aI cI 48 d_divisors), (aX0_reachable, aL cJ 79 d_reachable), (aX0_fewest, aI cI 5001 d_fewest), (aX0_takes, aL cJ 5001 d_takes), (aX0_chosen, aI cI 48 d_chosen)] ∧ r32 r0 ∧ rr32 d_divisors ∧ rr64 d_reachable ∧ rr32 d_fewest ∧ rr64 d_takes ∧ rr32 d_chosen ∧ r32 d_divisorsSize ∧ r32 d_size ∧ r32 d_askedP ∧ r32 d_askedQ ∧ r32 d_factor ∧ Q r0 d_divisors d_reachable d_fewest d_takes d_chosen d_divisorsSize d_size d_askedP d_askedQ d_factor
def wp_X0_factorFor_41 (Q : Int → (Int → Int) → (Int → Int) → (Int → Int) → (Int → Int) → (Int → Int) → Int → Int → Int → Int → Int → Prop) (d_divisors : Int → Int) (d_reachable : Int → Int) (d_fewest : Int → Int) (d_takes : Int → Int) (d_chosen : Int → Int) (d_divisorsSize : Int) (d_size : Int) (d_askedP : Int) (d_askedQ : Int) (d_factor : Int) : Prop := Q d_factor d_divisors d_reachable d_fewest d_takes d_chosen d_divisorsSize d_size d_askedP d_askedQ d_factor
set_option maxHeartbeats 4000000 in
set_option maxRecDepth 100000 in
theorem s_X0_factorFor_41 {X : Cx} (g : Gd X cX0_factorFor RX0 (some .int) 3) (hR : X.R = rmL 4 0 0) (hX0 : Nat) (aX0_divisors : Nat) (aX0_reachable : Nat) (aX0_fewest : Nat) (aX0_takes : Nat) (aX0_chosen : Nat) (Q : Int → (Int → Int) → (Int → Int) → (Int → Int) → (Int → Int) → (Int → Int) → Int → Int → Int → Int → Int → Prop) (hF : FQ X 0 0 (po_X0_factorFor X.cI X.cJ hX0 aX0_divisors aX0_reachable aX0_fewest aX0_takes aX0_chosen Q)) : ∀ (d_divisors : Int → Int) (d_reachable : Int → Int) (d_fewest : Int → Int) (d_takes : Int → Int) (d_chosen : Int → Int) (d_divisorsSize : Int) (d_size : Int) (d_askedP : Int) (d_askedQ : Int) (d_factor : Int), rr32 d_divisors → rr64 d_reachable → rr32 d_fewest → rr64 d_takes → rr32 d_chosen → r32 d_divisorsSize → r32 d_size → r32 d_askedP → r32 d_askedQ → r32 d_factor → wp_X0_factorFor_41 Q d_divisors d_reachable d_fewest d_takes d_chosen d_divisorsSize d_size d_askedP d_askedQ d_factor → Wat X 0 0 41 [(0, .ref hX0)] [] [(hX0, .inr (0, [.ref aX0_divisors, .ref aX0_reachable, .ref aX0_fewest, .ref aX0_takes, .ref aX0_chosen, .int (i32 d_divisorsSize), .int (i32 d_size), .int (i32 d_askedP), .int (i32 d_askedQ), .int (i32 d_factor)])), (aX0_divisors, aI X.cI 48 d_divisors), (aX0_reachable, aL X.cJ 79 d_reachable), (aX0_fewest, aI X.cI 5001 d_fewest), (aX0_takes, aL X.cJ 5001 d_takes), (aX0_chosen, aI X.cI 48 d_chosen)] := by
  intro d_divisors d_reachable d_fewest d_takes d_chosen d_divisorsSize d_size d_askedP d_askedQ d_factor r_d_divisors r_d_reachable r_d_fewest r_d_takes r_d_chosen r_d_divisorsSize r_d_size r_d_askedP r_d_askedQ r_d_factor h
  rw [wp_X0_factorFor_41] at h
  refine q_aload_n g 0 0 rfl dX0_factorFor_41 ?_
  refine q_get (C := RX0) (T := TX0) (N := 10) g 42 inX0 0 9 rfl rfl (by decide) wF_X0_42 rfl dX0_factorFor_42 ?_
  exact q_iret g hF ⟨d_factor, d_divisors, d_reachable, d_fewest, d_takes, d_chosen, d_divisorsSize, d_size, d_askedP, d_askedQ, d_factor, rfl, rfl, r_d_factor, r_d_divisors, r_d_reachable, r_d_fewest, r_d_takes, r_d_chosen, r_d_divisorsSize, r_d_size, r_d_askedP, r_d_askedQ, r_d_factor, h⟩ dX0_factorFor_45
def wp_X0_factorFor_16 (Q : Int → (Int → Int) → (Int → Int) → (Int → Int) → (Int → Int) → (Int → Int) → Int → Int → Int → Int → Int → Prop) (d_divisors : Int → Int) (d_reachable : Int → Int) (d_fewest : Int → Int) (d_takes : Int → Int) (d_chosen : Int → Int) (d_divisorsSize : Int) (d_size : Int) (d_askedP : Int) (d_askedQ : Int) (d_factor : Int) (l1 : Int) (l2 : Int) : Prop := wp_X0_findFactor (fun (x35 : Int) (d_divisors_35 : Int → Int) (d_reachable_35 : Int → Int) (d_fewest_35 : Int → Int) (d_takes_35 : Int → Int) (d_chosen_35 : Int → Int) (d_divisorsSize_35 : Int) (d_size_35 : Int) => wp_X0_factorFor_41 Q d_divisors_35 d_reachable_35 d_fewest_35 d_takes_35 d_chosen_35 d_divisorsSize_35 d_size_35 l1 l2 x35) d_divisors d_reachable d_fewest d_takes d_chosen d_divisorsSize 0 l1 l2
set_option maxHeartbeats 4000000 in
set_option maxRecDepth 100000 in
theorem s_X0_factorFor_16 {X : Cx} (g : Gd X cX0_factorFor RX0 (some .int) 3) (hR : X.R = rmL 4 0 0) (hX0 : Nat) (aX0_divisors : Nat) (aX0_reachable : Nat) (aX0_fewest : Nat) (aX0_takes : Nat) (aX0_chosen : Nat) (Q : Int → (Int → Int) → (Int → Int) → (Int → Int) → (Int → Int) → (Int → Int) → Int → Int → Int → Int → Int → Prop) (hF : FQ X 0 0 (po_X0_factorFor X.cI X.cJ hX0 aX0_divisors aX0_reachable aX0_fewest aX0_takes aX0_chosen Q)) : ∀ (d_divisors : Int → Int) (d_reachable : Int → Int) (d_fewest : Int → Int) (d_takes : Int → Int) (d_chosen : Int → Int) (d_divisorsSize : Int) (d_size : Int) (d_askedP : Int) (d_askedQ : Int) (d_factor : Int) (l1 : Int) (l2 : Int), rr32 d_divisors → rr64 d_reachable → rr32 d_fewest → rr64 d_takes → rr32 d_chosen → r32 d_divisorsSize → r32 d_size → r32 d_askedP → r32 d_askedQ → r32 d_factor → r32 l1 → r32 l2 → wp_X0_factorFor_16 Q d_divisors d_reachable d_fewest d_takes d_chosen d_divisorsSize d_size d_askedP d_askedQ d_factor l1 l2 → Wat X 0 0 16 [(0, .ref hX0), (1, .int (i32 l1)), (2, .int (i32 l2))] [] [(hX0, .inr (0, [.ref aX0_divisors, .ref aX0_reachable, .ref aX0_fewest, .ref aX0_takes, .ref aX0_chosen, .int (i32 d_divisorsSize), .int (i32 d_size), .int (i32 d_askedP), .int (i32 d_askedQ), .int (i32 d_factor)])), (aX0_divisors, aI X.cI 48 d_divisors), (aX0_reachable, aL X.cJ 79 d_reachable), (aX0_fewest, aI X.cI 5001 d_fewest), (aX0_takes, aL X.cJ 5001 d_takes), (aX0_chosen, aI X.cI 48 d_chosen)] := by
  intro d_divisors d_reachable d_fewest d_takes d_chosen d_divisorsSize d_size d_askedP d_askedQ d_factor l1 l2 r_d_divisors r_d_reachable r_d_fewest r_d_takes r_d_chosen r_d_divisorsSize r_d_size r_d_askedP r_d_askedQ r_d_factor r_l1 r_l2 h
  rw [wp_X0_factorFor_16] at h
  refine q_aload_n g 0 0 rfl dX0_factorFor_16 ?_
  refine q_iload_n g 1 1 rfl dX0_factorFor_17 ?_
  refine q_put (C := RX0) (T := TX0) (N := 10) (ty := .int) (ws' := [(hX0, .inr (0, [.ref aX0_divisors, .ref aX0_reachable, .ref aX0_fewest, .ref aX0_takes, .ref aX0_chosen, .int (i32 d_divisorsSize), .int (i32 d_size), .int (i32 l1), .int (i32 d_askedQ), .int (i32 d_factor)])), (aX0_divisors, aI X.cI 48 d_divisors), (aX0_reachable, aL X.cJ 79 d_reachable), (aX0_fewest, aI X.cI 5001 d_fewest), (aX0_takes, aL X.cJ 5001 d_takes), (aX0_chosen, aI X.cI 48 d_chosen)]) g 28 inX0 tyX0_ok nmX0 0 7 rfl rfl (by decide) wF_X0_28 rfl rfl rfl rfl (Nat.le_of_ble_eq_true rfl) rfl dX0_factorFor_18 ?_
  refine q_aload_n g 0 0 rfl dX0_factorFor_21 ?_
  refine q_iload_n g 2 2 rfl dX0_factorFor_22 ?_
  refine q_put (C := RX0) (T := TX0) (N := 10) (ty := .int) (ws' := [(hX0, .inr (0, [.ref aX0_divisors, .ref aX0_reachable, .ref aX0_fewest, .ref aX0_takes, .ref aX0_chosen, .int (i32 d_divisorsSize), .int (i32 d_size), .int (i32 l1), .int (i32 l2), .int (i32 d_factor)])), (aX0_divisors, aI X.cI 48 d_divisors), (aX0_reachable, aL X.cJ 79 d_reachable), (aX0_fewest, aI X.cI 5001 d_fewest), (aX0_takes, aL X.cJ 5001 d_takes), (aX0_chosen, aI X.cI 48 d_chosen)]) g 32 inX0 tyX0_ok nmX0 0 8 rfl rfl (by decide) wF_X0_32 rfl rfl rfl rfl (Nat.le_of_ble_eq_true rfl) rfl dX0_factorFor_23 ?_
  refine q_aload_n g 0 0 rfl dX0_factorFor_26 ?_
  refine q_iconst g (0) dX0_factorFor_27 ?_
  refine q_put (C := RX0) (T := TX0) (N := 10) (ty := .int) (ws' := [(hX0, .inr (0, [.ref aX0_divisors, .ref aX0_reachable, .ref aX0_fewest, .ref aX0_takes, .ref aX0_chosen, .int (i32 d_divisorsSize), .int (i32 0), .int (i32 l1), .int (i32 l2), .int (i32 d_factor)])), (aX0_divisors, aI X.cI 48 d_divisors), (aX0_reachable, aL X.cJ 79 d_reachable), (aX0_fewest, aI X.cI 5001 d_fewest), (aX0_takes, aL X.cJ 5001 d_takes), (aX0_chosen, aI X.cI 48 d_chosen)]) g 35 inX0 tyX0_ok nmX0 0 6 rfl rfl (by decide) wF_X0_35 rfl rfl rfl rfl (Nat.le_of_ble_eq_true rfl) rfl dX0_factorFor_28 ?_
  refine q_aload_n g 0 0 rfl dX0_factorFor_31 ?_
  refine q_aload_n g 0 0 rfl dX0_factorFor_32 ?_
  refine q_iload_n g 1 1 rfl dX0_factorFor_33 ?_
  refine q_iload_n g 2 2 rfl dX0_factorFor_34 ?_
  refine q_callV (lev := 3) (mc := 0) (ms := 0) g 38 (c_X0_findFactor X.l X.D X.cI X.cJ X.zt hX0 aX0_divisors aX0_reachable aX0_fewest aX0_takes aX0_chosen d_divisorsSize 0 l1 l2 d_factor d_divisors d_reachable d_fewest d_takes d_chosen l1 l2 _ r_d_divisors r_d_reachable r_d_fewest r_d_takes r_d_chosen r_d_divisorsSize (r32_lit _ (by decide)) r_l1 r_l2 h) (wr := []) [0, 1, 2, 3, 4, 5] [] rfl rfl rfl (by decide) (by decide) (by decide) (ci := 0) rfl rfl rfl wM_X0_38 wI_X0_findFactor wS_X0_findFactor wZ_X0 wC_X0_findFactor 2 rfl (by decide +kernel) (by rw [hR]; exact ⟨by show 3 + 1 ≤ 4; omega, by show 8 + (4 + 11) + 100 * 3 ≤ 100 * 4; omega⟩) (by rw [hR]; exact ⟨Nat.le_refl _, Nat.le_refl _⟩) (Nat.le_of_ble_eq_true rfl) rfl dX0_factorFor_35 (fun rv w1 hq => ?_)
  obtain ⟨x35, d_divisors_35, d_reachable_35, d_fewest_35, d_takes_35, d_chosen_35, d_divisorsSize_35, d_size_35, rfl, rfl, rx35, rd_divisors_35, rd_reachable_35, rd_fewest_35, rd_takes_35, rd_chosen_35, rd_divisorsSize_35, rd_size_35, h⟩ := hq
  show Wat X 0 0 38 [(0, .ref hX0), (1, .int (i32 l1)), (2, .int (i32 l2))] [.int (i32 x35), .ref hX0] [(hX0, .inr (0, [.ref aX0_divisors, .ref aX0_reachable, .ref aX0_fewest, .ref aX0_takes, .ref aX0_chosen, .int (i32 d_divisorsSize_35), .int (i32 d_size_35), .int (i32 l1), .int (i32 l2), .int (i32 d_factor)])), (aX0_divisors, aI X.cI 48 d_divisors_35), (aX0_reachable, aL X.cJ 79 d_reachable_35), (aX0_fewest, aI X.cI 5001 d_fewest_35), (aX0_takes, aL X.cJ 5001 d_takes_35), (aX0_chosen, aI X.cI 48 d_chosen_35)]
  refine q_put (C := RX0) (T := TX0) (N := 10) (ty := .int) (ws' := [(hX0, .inr (0, [.ref aX0_divisors, .ref aX0_reachable, .ref aX0_fewest, .ref aX0_takes, .ref aX0_chosen, .int (i32 d_divisorsSize_35), .int (i32 d_size_35), .int (i32 l1), .int (i32 l2), .int (i32 x35)])), (aX0_divisors, aI X.cI 48 d_divisors_35), (aX0_reachable, aL X.cJ 79 d_reachable_35), (aX0_fewest, aI X.cI 5001 d_fewest_35), (aX0_takes, aL X.cJ 5001 d_takes_35), (aX0_chosen, aI X.cI 48 d_chosen_35)]) g 42 inX0 tyX0_ok nmX0 0 9 rfl rfl (by decide) wF_X0_42 rfl rfl rfl rfl (Nat.le_of_ble_eq_true rfl) rfl dX0_factorFor_38 ?_
  refine q_lv (lv' := [(0, .ref hX0)]) [0] rfl ?_
  exact s_X0_factorFor_41 g hR hX0 aX0_divisors aX0_reachable aX0_fewest aX0_takes aX0_chosen Q hF d_divisors_35 d_reachable_35 d_fewest_35 d_takes_35 d_chosen_35 d_divisorsSize_35 d_size_35 l1 l2 x35 rd_divisors_35 rd_reachable_35 rd_fewest_35 rd_takes_35 rd_chosen_35 rd_divisorsSize_35 rd_size_35 r_l1 r_l2 rx35 h
def wp_X0_factorFor (Q : Int → (Int → Int) → (Int → Int) → (Int → Int) → (Int → Int) → (Int → Int) → Int → Int → Int → Int → Int → Prop) (d_divisors : Int → Int) (d_reachable : Int → Int) (d_fewest : Int → Int) (d_takes : Int → Int) (d_chosen : Int → Int) (d_divisorsSize : Int) (d_size : Int) (d_askedP : Int) (d_askedQ : Int) (d_factor : Int) (l1 : Int) (l2 : Int) : Prop := ((¬ l1 = d_askedP → wp_X0_factorFor_16 Q d_divisors d_reachable d_fewest d_takes d_chosen d_divisorsSize d_size d_askedP d_askedQ d_factor l1 l2) ∧
  (l1 = d_askedP → ((l2 = d_askedQ → wp_X0_factorFor_41 Q d_divisors d_reachable d_fewest d_takes d_chosen d_divisorsSize d_size d_askedP d_askedQ d_factor) ∧
  (¬ (l2 = d_askedQ) → wp_X0_factorFor_16 Q d_divisors d_reachable d_fewest d_takes d_chosen d_divisorsSize d_size d_askedP d_askedQ d_factor l1 l2))))
set_option maxHeartbeats 4000000 in
set_option maxRecDepth 100000 in
theorem c_X0_factorFor (l : Launch) (D : va_G) (cI cJ : ClassId) (zt : Nat) (hX0 : Nat) (aX0_divisors : Nat) (aX0_reachable : Nat) (aX0_fewest : Nat) (aX0_takes : Nat) (aX0_chosen : Nat) (d_divisorsSize : Int) (d_size : Int) (d_askedP : Int) (d_askedQ : Int) (d_factor : Int) (d_divisors : Int → Int) (d_reachable : Int → Int) (d_fewest : Int → Int) (d_takes : Int → Int) (d_chosen : Int → Int) (l1 : Int) (l2 : Int) (Q : Int → (Int → Int) → (Int → Int) → (Int → Int) → (Int → Int) → (Int → Int) → Int → Int → Int → Int → Int → Prop) (r_d_divisors : rr32 d_divisors) (r_d_reachable : rr64 d_reachable) (r_d_fewest : rr32 d_fewest) (r_d_takes : rr64 d_takes) (r_d_chosen : rr32 d_chosen) (r_d_divisorsSize : r32 d_divisorsSize) (r_d_size : r32 d_size) (r_d_askedP : r32 d_askedP) (r_d_askedQ : r32 d_askedQ) (r_d_factor : r32 d_factor) (r_l1 : r32 l1) (r_l2 : r32 l2) (h : wp_X0_factorFor Q d_divisors d_reachable d_fewest d_takes d_chosen d_divisorsSize d_size d_askedP d_askedQ d_factor l1 l2) : Ct l D cI cJ zt yX0_factorFor cX0_factorFor 3 (some .int) 4 0 0 [.ref hX0, .int (i32 l1), .int (i32 l2)] [(hX0, .inr (0, [.ref aX0_divisors, .ref aX0_reachable, .ref aX0_fewest, .ref aX0_takes, .ref aX0_chosen, .int (i32 d_divisorsSize), .int (i32 d_size), .int (i32 d_askedP), .int (i32 d_askedQ), .int (i32 d_factor)])), (aX0_divisors, aI cI 48 d_divisors), (aX0_reachable, aL cJ 79 d_reachable), (aX0_fewest, aI cI 5001 d_fewest), (aX0_takes, aL cJ 5001 d_takes), (aX0_chosen, aI cI 48 d_chosen)] (po_X0_factorFor cI cJ hX0 aX0_divisors aX0_reachable aX0_fewest aX0_takes aX0_chosen Q) := by
  refine ct_of (by decide +kernel) (Nat.le_of_ble_eq_true rfl) (fun X hl hDD hcI hcJ hzt hR hF hnm g => ?_)
  subst hl; subst hDD; subst hcI; subst hcJ; subst hzt
  show Wat X 0 0 0 [(0, .ref hX0), (1, .int (i32 l1)), (2, .int (i32 l2))] [] [(hX0, .inr (0, [.ref aX0_divisors, .ref aX0_reachable, .ref aX0_fewest, .ref aX0_takes, .ref aX0_chosen, .int (i32 d_divisorsSize), .int (i32 d_size), .int (i32 d_askedP), .int (i32 d_askedQ), .int (i32 d_factor)])), (aX0_divisors, aI X.cI 48 d_divisors), (aX0_reachable, aL X.cJ 79 d_reachable), (aX0_fewest, aI X.cI 5001 d_fewest), (aX0_takes, aL X.cJ 5001 d_takes), (aX0_chosen, aI X.cI 48 d_chosen)]
  replace g : Gd X cX0_factorFor RX0 (some .int) 3 := g
  rw [wp_X0_factorFor] at h
  refine q_iload_n g 1 1 rfl dX0_factorFor_0 ?_
  refine q_aload_n g 0 0 rfl dX0_factorFor_1 ?_
  refine q_get (C := RX0) (T := TX0) (N := 10) g 28 inX0 0 7 rfl rfl (by decide) wF_X0_28 rfl dX0_factorFor_2 ?_
  refine q_icmp_ne g (11) 16 r_l1 r_d_askedP (by decide) dX0_factorFor_5 (fun b5 => ?_) (fun b5 => ?_)
  · replace h := h.1 b5
    exact s_X0_factorFor_16 g hR hX0 aX0_divisors aX0_reachable aX0_fewest aX0_takes aX0_chosen Q hF d_divisors d_reachable d_fewest d_takes d_chosen d_divisorsSize d_size d_askedP d_askedQ d_factor l1 l2 r_d_divisors r_d_reachable r_d_fewest r_d_takes r_d_chosen r_d_divisorsSize r_d_size r_d_askedP r_d_askedQ r_d_factor r_l1 r_l2 h
  replace h := h.2 b5
  refine q_iload_n g 2 2 rfl dX0_factorFor_8 ?_
  refine q_aload_n g 0 0 rfl dX0_factorFor_9 ?_
  refine q_get (C := RX0) (T := TX0) (N := 10) g 32 inX0 0 8 rfl rfl (by decide) wF_X0_32 rfl dX0_factorFor_10 ?_
  refine q_icmp_eq g (28) 41 r_l2 r_d_askedQ (by decide) dX0_factorFor_13 (fun b13 => ?_) (fun b13 => ?_)
  · replace h := h.1 b13
    refine q_lv (lv' := [(0, .ref hX0)]) [0] rfl ?_
    exact s_X0_factorFor_41 g hR hX0 aX0_divisors aX0_reachable aX0_fewest aX0_takes aX0_chosen Q hF d_divisors d_reachable d_fewest d_takes d_chosen d_divisorsSize d_size d_askedP d_askedQ d_factor r_d_divisors r_d_reachable r_d_fewest r_d_takes r_d_chosen r_d_divisorsSize r_d_size r_d_askedP r_d_askedQ r_d_factor h
  replace h := h.2 b13
  exact s_X0_factorFor_16 g hR hX0 aX0_divisors aX0_reachable aX0_fewest aX0_takes aX0_chosen Q hF d_divisors d_reachable d_fewest d_takes d_chosen d_divisorsSize d_size d_askedP d_askedQ d_factor l1 l2 r_d_divisors r_d_reachable r_d_fewest r_d_takes r_d_chosen r_d_divisorsSize r_d_size r_d_askedP r_d_askedQ r_d_factor r_l1 r_l2 h
theorem dX0_size_0 : decode cX0_size 0 = .ok (.aload_n 0, 1) := by decide +kernel
theorem dX0_size_1 : decode cX0_size 1 = .ok (.getfield 35, 3) := by decide +kernel
theorem dX0_size_4 : decode cX0_size 4 = .ok (.ireturn, 1) := by decide +kernel
abbrev po_X0_size (cI cJ : ClassId) (hX0 : Nat) (aX0_divisors : Nat) (aX0_reachable : Nat) (aX0_fewest : Nat) (aX0_takes : Nat) (aX0_chosen : Nat) (d_divisorsSize : Int) (d_size : Int) (d_askedP : Int) (d_askedQ : Int) (d_factor : Int) (Q : Int → Prop) : Option Value → va_W → Prop := fun rv w1 => ∃ (r0 : Int), rv = some (.int (i32 r0)) ∧ w1 = [(hX0, .inr (0, [.ref aX0_divisors, .ref aX0_reachable, .ref aX0_fewest, .ref aX0_takes, .ref aX0_chosen, .int (i32 d_divisorsSize), .int (i32 d_size), .int (i32 d_askedP), .int (i32 d_askedQ), .int (i32 d_factor)]))] ∧ r32 r0 ∧ Q r0
def wp_X0_size (Q : Int → Prop) (d_size : Int) : Prop := Q d_size
set_option maxHeartbeats 4000000 in
set_option maxRecDepth 100000 in
theorem c_X0_size (l : Launch) (D : va_G) (cI cJ : ClassId) (zt : Nat) (hX0 : Nat) (aX0_divisors : Nat) (aX0_reachable : Nat) (aX0_fewest : Nat) (aX0_takes : Nat) (aX0_chosen : Nat) (d_divisorsSize : Int) (d_size : Int) (d_askedP : Int) (d_askedQ : Int) (d_factor : Int) (Q : Int → Prop) (r_d_size : r32 d_size) (h : wp_X0_size Q d_size) : Ct l D cI cJ zt yX0_size cX0_size 1 (some .int) 1 0 0 [.ref hX0] [(hX0, .inr (0, [.ref aX0_divisors, .ref aX0_reachable, .ref aX0_fewest, .ref aX0_takes, .ref aX0_chosen, .int (i32 d_divisorsSize), .int (i32 d_size), .int (i32 d_askedP), .int (i32 d_askedQ), .int (i32 d_factor)]))] (po_X0_size cI cJ hX0 aX0_divisors aX0_reachable aX0_fewest aX0_takes aX0_chosen d_divisorsSize d_size d_askedP d_askedQ d_factor Q) := by
  refine ct_of (by decide +kernel) (Nat.le_of_ble_eq_true rfl) (fun X hl hDD hcI hcJ hzt hR hF hnm g => ?_)
  subst hl; subst hDD; subst hcI; subst hcJ; subst hzt
  show Wat X 0 0 0 [(0, .ref hX0)] [] [(hX0, .inr (0, [.ref aX0_divisors, .ref aX0_reachable, .ref aX0_fewest, .ref aX0_takes, .ref aX0_chosen, .int (i32 d_divisorsSize), .int (i32 d_size), .int (i32 d_askedP), .int (i32 d_askedQ), .int (i32 d_factor)]))]
  replace g : Gd X cX0_size RX0 (some .int) 1 := g
  rw [wp_X0_size] at h
  refine q_aload_n g 0 0 rfl dX0_size_0 ?_
  refine q_get (C := RX0) (T := TX0) (N := 10) g 35 inX0 0 6 rfl rfl (by decide) wF_X0_35 rfl dX0_size_1 ?_
  exact q_iret g hF ⟨d_size, rfl, rfl, r_d_size, h⟩ dX0_size_4
