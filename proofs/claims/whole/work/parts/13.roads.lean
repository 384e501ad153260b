theorem wC_X3_add : Cond.code yX3_add cX3_add 3 (some .boolean) ∈ TT := List.mem_filter.mpr ⟨List.mem_append_right _ (List.mem_of_getElem? (i := 302) (by decide +kernel)), rfl⟩
theorem wC_X3_byCutting : Cond.code yX3_byCutting cX3_byCutting 9 (some .boolean) ∈ TT := List.mem_filter.mpr ⟨List.mem_append_right _ (List.mem_of_getElem? (i := 309) (by decide +kernel)), rfl⟩
theorem wC_X3_byFactors : Cond.code yX3_byFactors cX3_byFactors 12 (some .boolean) ∈ TT := List.mem_filter.mpr ⟨List.mem_append_right _ (List.mem_of_getElem? (i := 332) (by decide +kernel)), rfl⟩
theorem wC_X3_byGreed : Cond.code yX3_byGreed cX3_byGreed 23 (some .boolean) ∈ TT := List.mem_filter.mpr ⟨List.mem_append_right _ (List.mem_of_getElem? (i := 293) (by decide +kernel)), rfl⟩
theorem wC_X3_byMiddles : Cond.code yX3_byMiddles cX3_byMiddles 12 (some .boolean) ∈ TT := List.mem_filter.mpr ⟨List.mem_append_right _ (List.mem_of_getElem? (i := 322) (by decide +kernel)), rfl⟩
theorem wC_X3_leastTwin : Cond.code yX3_leastTwin cX3_leastTwin 2 (some .int) ∈ TT := List.mem_filter.mpr ⟨List.mem_append_right _ (List.mem_of_getElem? (i := 314) (by decide +kernel)), rfl⟩
theorem wC_X3_putInOrder : Cond.code yX3_putInOrder cX3_putInOrder 5 none ∈ TT := List.mem_filter.mpr ⟨List.mem_append_right _ (List.mem_of_getElem? (i := 318) (by decide +kernel)), rfl⟩
theorem wC_X3_reachesEnd : Cond.code yX3_reachesEnd cX3_reachesEnd 6 (some .boolean) ∈ TT := List.mem_filter.mpr ⟨List.mem_append_right _ (List.mem_of_getElem? (i := 289) (by decide +kernel)), rfl⟩
theorem wC_X7_commonDivisor : Cond.code yX7_commonDivisor cX7_commonDivisor 11 (some .long) ∈ TT := List.mem_filter.mpr ⟨List.mem_append_right _ (List.mem_of_getElem? (i := 251) (by decide +kernel)), rfl⟩
theorem wC_X7_inverse : Cond.code yX7_inverse cX7_inverse 19 (some .long) ∈ TT := List.mem_filter.mpr ⟨List.mem_append_right _ (List.mem_of_getElem? (i := 325) (by decide +kernel)), rfl⟩
theorem wC_X7_roundedUp : Cond.code yX7_roundedUp cX7_roundedUp 4 (some .long) ∈ TT := List.mem_filter.mpr ⟨List.mem_append_right _ (List.mem_of_getElem? (i := 296) (by decide +kernel)), rfl⟩
theorem wF_X3_11 : Cond.fieldLink RX3 11 (TX3 0).1 (TX3 0).2.1 (TX3 0).2.2.1 ∈ TT := List.mem_filter.mpr ⟨List.mem_append_right _ (List.mem_of_getElem? (i := 27) (by decide +kernel)), rfl⟩
theorem wF_X3_15 : Cond.fieldLink RX3 15 (TX3 1).1 (TX3 1).2.1 (TX3 1).2.2.1 ∈ TT := List.mem_filter.mpr ⟨List.mem_append_right _ (List.mem_of_getElem? (i := 28) (by decide +kernel)), rfl⟩
theorem wI_X3_add : Cond.instanceMethod yX3_add ∈ TT := List.mem_filter.mpr ⟨List.mem_append_right _ (List.mem_of_getElem? (i := 301) (by decide +kernel)), rfl⟩
theorem wI_X3_byCutting : Cond.instanceMethod yX3_byCutting ∈ TT := List.mem_filter.mpr ⟨List.mem_append_right _ (List.mem_of_getElem? (i := 308) (by decide +kernel)), rfl⟩
theorem wI_X3_byFactors : Cond.instanceMethod yX3_byFactors ∈ TT := List.mem_filter.mpr ⟨List.mem_append_right _ (List.mem_of_getElem? (i := 331) (by decide +kernel)), rfl⟩
theorem wI_X3_byGreed : Cond.instanceMethod yX3_byGreed ∈ TT := List.mem_filter.mpr ⟨List.mem_append_right _ (List.mem_of_getElem? (i := 292) (by decide +kernel)), rfl⟩
theorem wI_X3_byMiddles : Cond.instanceMethod yX3_byMiddles ∈ TT := List.mem_filter.mpr ⟨List.mem_append_right _ (List.mem_of_getElem? (i := 321) (by decide +kernel)), rfl⟩
theorem wI_X3_leastTwin : Cond.instanceMethod yX3_leastTwin ∈ TT := List.mem_filter.mpr ⟨List.mem_append_right _ (List.mem_of_getElem? (i := 313) (by decide +kernel)), rfl⟩
theorem wI_X3_putInOrder : Cond.instanceMethod yX3_putInOrder ∈ TT := List.mem_filter.mpr ⟨List.mem_append_right _ (List.mem_of_getElem? (i := 317) (by decide +kernel)), rfl⟩
theorem wI_X3_reachesEnd : Cond.instanceMethod yX3_reachesEnd ∈ TT := List.mem_filter.mpr ⟨List.mem_append_right _ (List.mem_of_getElem? (i := 288) (by decide +kernel)), rfl⟩
theorem wL_X3_40 : Cond.constantLong RX3 40 (1000000000000) ∈ TT := List.mem_filter.mpr ⟨List.mem_append_right _ (List.mem_of_getElem? (i := 303) (by decide +kernel)), rfl⟩
theorem wL_X3_51 : Cond.constantLong RX3 51 (2) ∈ TT := List.mem_filter.mpr ⟨List.mem_append_right _ (List.mem_of_getElem? (i := 298) (by decide +kernel)), rfl⟩
theorem wL_X3_60 : Cond.constantLong RX3 60 (1000000000000000) ∈ TT := List.mem_filter.mpr ⟨List.mem_append_right _ (List.mem_of_getElem? (i := 305) (by decide +kernel)), rfl⟩
theorem wL_X3_62 : Cond.constantLong RX3 62 (16) ∈ TT := List.mem_filter.mpr ⟨List.mem_append_right _ (List.mem_of_getElem? (i := 310) (by decide +kernel)), rfl⟩
theorem wM_X3_19 : Cond.methodLink RX3 19 yX3_reachesEnd ∈ TT := List.mem_filter.mpr ⟨List.mem_append_right _ (List.mem_of_getElem? (i := 286) (by decide +kernel)), rfl⟩
theorem wM_X3_23 : Cond.methodLink RX3 23 yX3_putInOrder ∈ TT := List.mem_filter.mpr ⟨List.mem_append_right _ (List.mem_of_getElem? (i := 315) (by decide +kernel)), rfl⟩
theorem wM_X3_26 : Cond.methodLink RX3 26 yX3_byGreed ∈ TT := List.mem_filter.mpr ⟨List.mem_append_right _ (List.mem_of_getElem? (i := 290) (by decide +kernel)), rfl⟩
theorem wM_X3_30 : Cond.methodLink RX3 30 yX3_byCutting ∈ TT := List.mem_filter.mpr ⟨List.mem_append_right _ (List.mem_of_getElem? (i := 306) (by decide +kernel)), rfl⟩
theorem wM_X3_34 : Cond.methodLink RX3 34 yX3_byMiddles ∈ TT := List.mem_filter.mpr ⟨List.mem_append_right _ (List.mem_of_getElem? (i := 319) (by decide +kernel)), rfl⟩
theorem wM_X3_37 : Cond.methodLink RX3 37 yX3_byFactors ∈ TT := List.mem_filter.mpr ⟨List.mem_append_right _ (List.mem_of_getElem? (i := 329) (by decide +kernel)), rfl⟩
theorem wM_X3_46 : Cond.methodLink RX3 46 yJ9_max_f86c9 ∈ TT := List.mem_filter.mpr ⟨List.mem_append_right _ (List.mem_of_getElem? (i := 297) (by decide +kernel)), rfl⟩
theorem wM_X3_53 : Cond.methodLink RX3 53 yX3_add ∈ TT := List.mem_filter.mpr ⟨List.mem_append_right _ (List.mem_of_getElem? (i := 299) (by decide +kernel)), rfl⟩
theorem wM_X3_64 : Cond.methodLink RX3 64 yX3_leastTwin ∈ TT := List.mem_filter.mpr ⟨List.mem_append_right _ (List.mem_of_getElem? (i := 311) (by decide +kernel)), rfl⟩
theorem wS_X3_add : Cond.selects yX3_add.cls yX3_add yX3_add ∈ TT := List.mem_filter.mpr ⟨List.mem_append_left _ (List.mem_of_getElem? (i := 4) (by decide +kernel)), rfl⟩
theorem wS_X3_byCutting : Cond.selects yX3_byCutting.cls yX3_byCutting yX3_byCutting ∈ TT := List.mem_filter.mpr ⟨List.mem_append_left _ (List.mem_of_getElem? (i := 5) (by decide +kernel)), rfl⟩
theorem wS_X3_byFactors : Cond.selects yX3_byFactors.cls yX3_byFactors yX3_byFactors ∈ TT := List.mem_filter.mpr ⟨List.mem_append_left _ (List.mem_of_getElem? (i := 9) (by decide +kernel)), rfl⟩
theorem wS_X3_byGreed : Cond.selects yX3_byGreed.cls yX3_byGreed yX3_byGreed ∈ TT := List.mem_filter.mpr ⟨List.mem_append_left _ (List.mem_of_getElem? (i := 3) (by decide +kernel)), rfl⟩
theorem wS_X3_byMiddles : Cond.selects yX3_byMiddles.cls yX3_byMiddles yX3_byMiddles ∈ TT := List.mem_filter.mpr ⟨List.mem_append_left _ (List.mem_of_getElem? (i := 8) (by decide +kernel)), rfl⟩
theorem wS_X3_leastTwin : Cond.selects yX3_leastTwin.cls yX3_leastTwin yX3_leastTwin ∈ TT := List.mem_filter.mpr ⟨List.mem_append_left _ (List.mem_of_getElem? (i := 6) (by decide +kernel)), rfl⟩
theorem wS_X3_putInOrder : Cond.selects yX3_putInOrder.cls yX3_putInOrder yX3_putInOrder ∈ TT := List.mem_filter.mpr ⟨List.mem_append_left _ (List.mem_of_getElem? (i := 7) (by decide +kernel)), rfl⟩
theorem wS_X3_reachesEnd : Cond.selects yX3_reachesEnd.cls yX3_reachesEnd yX3_reachesEnd ∈ TT := List.mem_filter.mpr ⟨List.mem_append_left _ (List.mem_of_getElem? (i := 2) (by decide +kernel)), rfl⟩
theorem wT_X7_commonDivisor : Cond.static yX7_commonDivisor ∈ TT := List.mem_filter.mpr ⟨List.mem_append_right _ (List.mem_of_getElem? (i := 250) (by decide +kernel)), rfl⟩
theorem wT_X7_inverse : Cond.static yX7_inverse ∈ TT := List.mem_filter.mpr ⟨List.mem_append_right _ (List.mem_of_getElem? (i := 324) (by decide +kernel)), rfl⟩
theorem wT_X7_roundedUp : Cond.static yX7_roundedUp ∈ TT := List.mem_filter.mpr ⟨List.mem_append_right _ (List.mem_of_getElem? (i := 295) (by decide +kernel)), rfl⟩
theorem wZ_X3 : Cond.initialized RX3 ∈ TT := List.mem_filter.mpr ⟨List.mem_append_right _ (List.mem_of_getElem? (i := 2) (by decide +kernel)), rfl⟩
theorem wZ_X7 : Cond.initialized RX7 ∈ TT := List.mem_filter.mpr ⟨List.mem_append_right _ (List.mem_of_getElem? (i := 1) (by decide +kernel)), rfl⟩
theorem dX3_add_0 : decode cX3_add 0 = .ok (.aload_n 0, 1) := by decide +kernel
theorem dX3_add_1 : decode cX3_add 1 = .ok (.getfield 15, 3) := by decide +kernel
theorem dX3_add_4 : decode cX3_add 4 = .ok (.ifCond .lt 23, 3) := by decide +kernel
theorem dX3_add_7 : decode cX3_add 7 = .ok (.aload_n 0, 1) := by decide +kernel
theorem dX3_add_8 : decode cX3_add 8 = .ok (.getfield 15, 3) := by decide +kernel
theorem dX3_add_11 : decode cX3_add 11 = .ok (.aload_n 0, 1) := by decide +kernel
theorem dX3_add_12 : decode cX3_add 12 = .ok (.getfield 11, 3) := by decide +kernel
theorem dX3_add_15 : decode cX3_add 15 = .ok (.arraylength, 1) := by decide +kernel
theorem dX3_add_16 : decode cX3_add 16 = .ok (.if_icmp .ge 11, 3) := by decide +kernel
theorem dX3_add_19 : decode cX3_add 19 = .ok (.lload_n 1, 1) := by decide +kernel
theorem dX3_add_20 : decode cX3_add 20 = .ok (.ldc2_w 40, 3) := by decide +kernel
theorem dX3_add_23 : decode cX3_add 23 = .ok (.lcmp, 1) := by decide +kernel
theorem dX3_add_24 : decode cX3_add 24 = .ok (.ifCond .le 5, 3) := by decide +kernel
theorem dX3_add_27 : decode cX3_add 27 = .ok (.iconst 0, 1) := by decide +kernel
theorem dX3_add_28 : decode cX3_add 28 = .ok (.ireturn, 1) := by decide +kernel
theorem dX3_add_29 : decode cX3_add 29 = .ok (.aload_n 0, 1) := by decide +kernel
theorem dX3_add_30 : decode cX3_add 30 = .ok (.getfield 11, 3) := by decide +kernel
theorem dX3_add_33 : decode cX3_add 33 = .ok (.aload_n 0, 1) := by decide +kernel
theorem dX3_add_34 : decode cX3_add 34 = .ok (.getfield 15, 3) := by decide +kernel
theorem dX3_add_37 : decode cX3_add 37 = .ok (.lload_n 1, 1) := by decide +kernel
theorem dX3_add_38 : decode cX3_add 38 = .ok (.lastore, 1) := by decide +kernel
theorem dX3_add_39 : decode cX3_add 39 = .ok (.aload_n 0, 1) := by decide +kernel
theorem dX3_add_40 : decode cX3_add 40 = .ok (.dup, 1) := by decide +kernel
theorem dX3_add_41 : decode cX3_add 41 = .ok (.getfield 15, 3) := by decide +kernel
theorem dX3_add_44 : decode cX3_add 44 = .ok (.iconst 1, 1) := by decide +kernel
theorem dX3_add_45 : decode cX3_add 45 = .ok (.iadd, 1) := by decide +kernel
theorem dX3_add_46 : decode cX3_add 46 = .ok (.putfield 15, 3) := by decide +kernel
theorem dX3_add_49 : decode cX3_add 49 = .ok (.iconst 1, 1) := by decide +kernel
theorem dX3_add_50 : decode cX3_add 50 = .ok (.ireturn, 1) := by decide +kernel
abbrev po_X3_add (cI cJ : ClassId) (hX3 : Nat) (aX3_shares : Nat) (Q : Int → (Int → Int) → Int → Prop) : Option Value → va_W → Prop := fun rv w1 => ∃ (r0 : Int) (r_shares : Int → Int) (r_size : Int), rv = some (.int (i32 r0)) ∧ w1 = [(hX3, .inr (3, [.ref aX3_shares, .int (i32 r_size)])), (aX3_shares, aL cJ 16 r_shares)] ∧ r32 r0 ∧ rr64 r_shares ∧ r32 r_size ∧ Q r0 r_shares r_size
def wp_X3_add_27 (Q : Int → (Int → Int) → Int → Prop) (r_shares : Int → Int) (r_size : Int) : Prop := Q 0 r_shares r_size
set_option maxHeartbeats 4000000 in
set_option maxRecDepth 100000 in
theorem s_X3_add_27 {X : Cx} (g : Gd X cX3_add RX3 (some .boolean) 3) (hR : X.R = rmL 1 0 0) (hX3 : Nat) (aX3_shares : Nat) (Q : Int → (Int → Int) → Int → Prop) (hF : FQ X 0 0 (po_X3_add X.cI X.cJ hX3 aX3_shares Q)) : ∀ (r_shares : Int → Int) (r_size : Int), rr64 r_shares → r32 r_size → wp_X3_add_27 Q r_shares r_size → Wat X 0 0 27 [] [] [(hX3, .inr (3, [.ref aX3_shares, .int (i32 r_size)])), (aX3_shares, aL X.cJ 16 r_shares)] := by
  intro r_shares r_size r_r_shares r_r_size h
  rw [wp_X3_add_27] at h
  refine q_iconst g (0) dX3_add_27 ?_
  exact q_zret g hF (by decide) ⟨0, r_shares, r_size, rfl, rfl, (r32_lit _ (by decide)), r_r_shares, r_r_size, h⟩ dX3_add_28
def wp_X3_add (Q : Int → (Int → Int) → Int → Prop) (r_shares : Int → Int) (r_size : Int) (l1 : Int) : Prop := ((r_size < 0 → wp_X3_add_27 Q r_shares r_size) ∧
  (¬ (r_size < 0) → ((16 ≤ r_size → wp_X3_add_27 Q r_shares r_size) ∧
  (¬ (16 ≤ r_size) → ((l1 ≤ 1000000000000 → (0 ≤ r_size ∧ r_size < 16 ∧ r32 (r_size + 1) ∧ ∀ x46 : Int, x46 = (r_size + 1) → Q 1 (ups r_shares r_size l1) x46)) ∧
  (¬ (l1 ≤ 1000000000000) → wp_X3_add_27 Q r_shares r_size))))))
set_option maxHeartbeats 4000000 in
set_option maxRecDepth 100000 in
theorem c_X3_add (l : Launch) (D : va_G) (cI cJ : ClassId) (zt : Nat) (hX3 : Nat) (aX3_shares : Nat) (r_size : Int) (r_shares : Int → Int) (l1 : Int) (Q : Int → (Int → Int) → Int → Prop) (r_r_shares : rr64 r_shares) (r_r_size : r32 r_size) (r_l1 : r64 l1) (h : wp_X3_add Q r_shares r_size l1) : Ct l D cI cJ zt yX3_add cX3_add 3 (some .boolean) 1 0 0 [.ref hX3, .long (i64 l1)] [(hX3, .inr (3, [.ref aX3_shares, .int (i32 r_size)])), (aX3_shares, aL cJ 16 r_shares)] (po_X3_add cI cJ hX3 aX3_shares Q) := by
  refine ct_of (by decide +kernel) (Nat.le_of_ble_eq_true rfl) (fun X hl hDD hcI hcJ hzt hR hF hnm g => ?_)
  subst hl; subst hDD; subst hcI; subst hcJ; subst hzt
  show Wat X 0 0 0 [(0, .ref hX3), (1, .long (i64 l1))] [] [(hX3, .inr (3, [.ref aX3_shares, .int (i32 r_size)])), (aX3_shares, aL X.cJ 16 r_shares)]
  replace g : Gd X cX3_add RX3 (some .boolean) 3 := g
  rw [wp_X3_add] at h
  refine q_aload_n g 0 0 rfl dX3_add_0 ?_
  refine q_get (C := RX3) (T := TX3) (N := 2) g 15 inX3 0 1 rfl rfl (by decide) wF_X3_15 rfl dX3_add_1 ?_
  refine q_if_lt g (23) 27 r_r_size (by decide) dX3_add_4 (fun b4 => ?_) (fun b4 => ?_)
  · replace h := h.1 b4
    refine q_lv (lv' := []) [] rfl ?_
    exact s_X3_add_27 g hR hX3 aX3_shares Q hF r_shares r_size r_r_shares r_r_size h
  replace h := h.2 b4
  refine q_aload_n g 0 0 rfl dX3_add_7 ?_
  refine q_get (C := RX3) (T := TX3) (N := 2) g 15 inX3 0 1 rfl rfl (by decide) wF_X3_15 rfl dX3_add_8 ?_
  refine q_aload_n g 0 0 rfl dX3_add_11 ?_
  refine q_get (C := RX3) (T := TX3) (N := 2) g 11 inX3 0 0 rfl rfl (by decide) wF_X3_11 rfl dX3_add_12 ?_
  refine q_alenL g 1 16 rfl rfl dX3_add_15 ?_
  refine q_icmp_ge g (11) 27 r_r_size (r32_lit _ (by decide)) (by decide) dX3_add_16 (fun b16 => ?_) (fun b16 => ?_)
  · replace h := h.1 b16
    refine q_lv (lv' := []) [] rfl ?_
    exact s_X3_add_27 g hR hX3 aX3_shares Q hF r_shares r_size r_r_shares r_r_size h
  replace h := h.2 b16
  refine q_lload_n g 1 1 rfl dX3_add_19 ?_
  refine q_ldc2 (w := 1000000000000) g 40 (1000000000000) (by decide +kernel) wL_X3_40 dX3_add_20 ?_
  refine q_lcmp_le g (5) 29 r_l1 (r64_lit _ (by decide)) (by decide) dX3_add_23 dX3_add_24 (fun b23 => ?_) (fun b23 => ?_)
  · replace h := h.1 b23
    refine q_aload_n g 0 0 rfl dX3_add_29 ?_
    refine q_get (C := RX3) (T := TX3) (N := 2) g 11 inX3 0 0 rfl rfl (by decide) wF_X3_11 rfl dX3_add_30 ?_
    refine q_aload_n g 0 0 rfl dX3_add_33 ?_
    refine q_get (C := RX3) (T := TX3) (N := 2) g 15 inX3 0 1 rfl rfl (by decide) wF_X3_15 rfl dX3_add_34 ?_
    refine q_lload_n g 1 1 rfl dX3_add_37 ?_
    obtain ⟨c38, h⟩ := h
    obtain ⟨e38, h⟩ := h
    refine q_last (ws' := [(hX3, .inr (3, [.ref aX3_shares, .int (i32 r_size)])), (aX3_shares, aL X.cJ 16 (ups r_shares r_size l1))]) g 1 rfl c38 e38 (by decide) rfl dX3_add_38 ?_
    refine q_aload_n g 0 0 rfl dX3_add_39 ?_
    refine q_dup g rfl dX3_add_40 ?_
    refine q_get (C := RX3) (T := TX3) (N := 2) g 15 inX3 0 1 rfl rfl (by decide) wF_X3_15 rfl dX3_add_41 ?_
    refine q_iconst g (1) dX3_add_44 ?_
    obtain ⟨c45, h⟩ := h
    refine q_iadd g dX3_add_45 ?_
    refine q_topi c45 (fun x46 ex46 rx46 => ?_)
    replace h := h x46 ex46
    refine q_put (C := RX3) (T := TX3) (N := 2) (ty := .int) (ws' := [(hX3, .inr (3, [.ref aX3_shares, .int (i32 x46)])), (aX3_shares, aL X.cJ 16 (ups r_shares r_size l1))]) g 15 inX3 tyX3_ok nmX3 0 1 rfl rfl (by decide) wF_X3_15 rfl rfl rfl rfl (Nat.le_of_ble_eq_true rfl) rfl dX3_add_46 ?_
    refine q_iconst g (1) dX3_add_49 ?_
    exact q_zret g hF (by decide) ⟨1, (ups r_shares r_size l1), x46, rfl, rfl, (r32_lit _ (by decide)), (rr64_u r_r_shares r_l1), rx46, h⟩ dX3_add_50
  replace h := h.2 b23
  refine q_lv (lv' := []) [] rfl ?_
  exact s_X3_add_27 g hR hX3 aX3_shares Q hF r_shares r_size r_r_shares r_r_size h
theorem dX3_at_0 : decode cX3_at 0 = .ok (.iload_n 1, 1) := by decide +kernel
theorem dX3_at_1 : decode cX3_at 1 = .ok (.ifCond .lt 29, 3) := by decide +kernel
theorem dX3_at_4 : decode cX3_at 4 = .ok (.iload_n 1, 1) := by decide +kernel
theorem dX3_at_5 : decode cX3_at 5 = .ok (.aload_n 0, 1) := by decide +kernel
theorem dX3_at_6 : decode cX3_at 6 = .ok (.getfield 15, 3) := by decide +kernel
theorem dX3_at_9 : decode cX3_at 9 = .ok (.if_icmp .ge 21, 3) := by decide +kernel
theorem dX3_at_12 : decode cX3_at 12 = .ok (.iload_n 1, 1) := by decide +kernel
theorem dX3_at_13 : decode cX3_at 13 = .ok (.aload_n 0, 1) := by decide +kernel
theorem dX3_at_14 : decode cX3_at 14 = .ok (.getfield 11, 3) := by decide +kernel
theorem dX3_at_17 : decode cX3_at 17 = .ok (.arraylength, 1) := by decide +kernel
theorem dX3_at_18 : decode cX3_at 18 = .ok (.if_icmp .ge 12, 3) := by decide +kernel
theorem dX3_at_21 : decode cX3_at 21 = .ok (.aload_n 0, 1) := by decide +kernel
theorem dX3_at_22 : decode cX3_at 22 = .ok (.getfield 11, 3) := by decide +kernel
theorem dX3_at_25 : decode cX3_at 25 = .ok (.iload_n 1, 1) := by decide +kernel
theorem dX3_at_26 : decode cX3_at 26 = .ok (.laload, 1) := by decide +kernel
theorem dX3_at_27 : decode cX3_at 27 = .ok (.goto 4, 3) := by decide +kernel
theorem dX3_at_30 : decode cX3_at 30 = .ok (.lconst 0, 1) := by decide +kernel
theorem dX3_at_31 : decode cX3_at 31 = .ok (.lreturn, 1) := by decide +kernel
abbrev po_X3_at (cI cJ : ClassId) (hX3 : Nat) (aX3_shares : Nat) (r_size : Int) (r_shares : Int → Int) (Q : Int → Prop) : Option Value → va_W → Prop := fun rv w1 => ∃ (r0 : Int), rv = some (.long (i64 r0)) ∧ w1 = [(hX3, .inr (3, [.ref aX3_shares, .int (i32 r_size)])), (aX3_shares, aL cJ 16 r_shares)] ∧ r64 r0 ∧ Q r0
def wp_X3_at_31 (Q : Int → Prop) (r_shares : Int → Int) (r_size : Int) (k0 : Int) : Prop := Q k0
set_option maxHeartbeats 4000000 in
set_option maxRecDepth 100000 in
theorem s_X3_at_31 {X : Cx} (g : Gd X cX3_at RX3 (some .long) 2) (hR : X.R = rmL 1 0 0) (hX3 : Nat) (aX3_shares : Nat) (r_shares : Int → Int) (r_size : Int) (r_r_shares : rr64 r_shares) (r_r_size : r32 r_size) (Q : Int → Prop) (hF : FQ X 0 0 (po_X3_at X.cI X.cJ hX3 aX3_shares r_size r_shares Q)) : ∀ (k0 : Int), r64 k0 → wp_X3_at_31 Q r_shares r_size k0 → Wat X 0 0 31 [] [.long (i64 k0)] [(hX3, .inr (3, [.ref aX3_shares, .int (i32 r_size)])), (aX3_shares, aL X.cJ 16 r_shares)] := by
  intro k0 r_k0 h
  rw [wp_X3_at_31] at h
  exact q_lret g hF ⟨k0, rfl, rfl, r_k0, h⟩ dX3_at_31
def wp_X3_at_30 (Q : Int → Prop) (r_shares : Int → Int) (r_size : Int) : Prop := wp_X3_at_31 Q r_shares r_size 0
set_option maxHeartbeats 4000000 in
set_option maxRecDepth 100000 in
theorem s_X3_at_30 {X : Cx} (g : Gd X cX3_at RX3 (some .long) 2) (hR : X.R = rmL 1 0 0) (hX3 : Nat) (aX3_shares : Nat) (r_shares : Int → Int) (r_size : Int) (r_r_shares : rr64 r_shares) (r_r_size : r32 r_size) (Q : Int → Prop) (hF : FQ X 0 0 (po_X3_at X.cI X.cJ hX3 aX3_shares r_size r_shares Q)) : wp_X3_at_30 Q r_shares r_size → Wat X 0 0 30 [] [] [(hX3, .inr (3, [.ref aX3_shares, .int (i32 r_size)])), (aX3_shares, aL X.cJ 16 r_shares)] := by
  intro h
  rw [wp_X3_at_30] at h
  refine q_lconst g 0 0 rfl dX3_at_30 ?_
  exact s_X3_at_31 g hR hX3 aX3_shares r_shares r_size r_r_shares r_r_size Q hF 0 (r64_lit _ (by decide)) h
def wp_X3_at (Q : Int → Prop) (r_shares : Int → Int) (r_size : Int) (l1 : Int) : Prop := ((l1 < 0 → wp_X3_at_30 Q r_shares r_size) ∧
  (¬ (l1 < 0) → ((r_size ≤ l1 → wp_X3_at_30 Q r_shares r_size) ∧
  (¬ (r_size ≤ l1) → ((16 ≤ l1 → wp_X3_at_30 Q r_shares r_size) ∧
  (¬ (16 ≤ l1) → (0 ≤ l1 ∧ l1 < 16 ∧ wp_X3_at_31 Q r_shares r_size (r_shares l1))))))))
set_option maxHeartbeats 4000000 in
set_option maxRecDepth 100000 in
theorem c_X3_at (l : Launch) (D : va_G) (cI cJ : ClassId) (zt : Nat) (hX3 : Nat) (aX3_shares : Nat) (r_size : Int) (r_shares : Int → Int) (l1 : Int) (Q : Int → Prop) (r_r_shares : rr64 r_shares) (r_r_size : r32 r_size) (r_l1 : r32 l1) (h : wp_X3_at Q r_shares r_size l1) : Ct l D cI cJ zt yX3_at cX3_at 2 (some .long) 1 0 0 [.ref hX3, .int (i32 l1)] [(hX3, .inr (3, [.ref aX3_shares, .int (i32 r_size)])), (aX3_shares, aL cJ 16 r_shares)] (po_X3_at cI cJ hX3 aX3_shares r_size r_shares Q) := by
  refine ct_of (by decide +kernel) (Nat.le_of_ble_eq_true rfl) (fun X hl hDD hcI hcJ hzt hR hF hnm g => ?_)
  subst hl; subst hDD; subst hcI; subst hcJ; subst hzt
  show Wat X 0 0 0 [(0, .ref hX3), (1, .int (i32 l1))] [] [(hX3, .inr (3, [.ref aX3_shares, .int (i32 r_size)])), (aX3_shares, aL X.cJ 16 r_shares)]
  replace g : Gd X cX3_at RX3 (some .long) 2 := g
  rw [wp_X3_at] at h
  refine q_iload_n g 1 1 rfl dX3_at_0 ?_
  refine q_if_lt g (29) 30 r_l1 (by decide) dX3_at_1 (fun b1 => ?_) (fun b1 => ?_)
  · replace h := h.1 b1
    refine q_lv (lv' := []) [] rfl ?_
    exact s_X3_at_30 g hR hX3 aX3_shares r_shares r_size r_r_shares r_r_size Q hF h
  replace h := h.2 b1
  refine q_iload_n g 1 1 rfl dX3_at_4 ?_
  refine q_aload_n g 0 0 rfl dX3_at_5 ?_
  refine q_get (C := RX3) (T := TX3) (N := 2) g 15 inX3 0 1 rfl rfl (by decide) wF_X3_15 rfl dX3_at_6 ?_
  refine q_icmp_ge g (21) 30 r_l1 r_r_size (by decide) dX3_at_9 (fun b9 => ?_) (fun b9 => ?_)
  · replace h := h.1 b9
    refine q_lv (lv' := []) [] rfl ?_
    exact s_X3_at_30 g hR hX3 aX3_shares r_shares r_size r_r_shares r_r_size Q hF h
  replace h := h.2 b9
  refine q_iload_n g 1 1 rfl dX3_at_12 ?_
  refine q_aload_n g 0 0 rfl dX3_at_13 ?_
  refine q_get (C := RX3) (T := TX3) (N := 2) g 11 inX3 0 0 rfl rfl (by decide) wF_X3_11 rfl dX3_at_14 ?_
  refine q_alenL g 1 16 rfl rfl dX3_at_17 ?_
  refine q_icmp_ge g (12) 30 r_l1 (r32_lit _ (by decide)) (by decide) dX3_at_18 (fun b18 => ?_) (fun b18 => ?_)
  · replace h := h.1 b18
    refine q_lv (lv' := []) [] rfl ?_
    exact s_X3_at_30 g hR hX3 aX3_shares r_shares r_size r_r_shares r_r_size Q hF h
  replace h := h.2 b18
  refine q_aload_n g 0 0 rfl dX3_at_21 ?_
  refine q_get (C := RX3) (T := TX3) (N := 2) g 11 inX3 0 0 rfl rfl (by decide) wF_X3_11 rfl dX3_at_22 ?_
  refine q_iload_n g 1 1 rfl dX3_at_25 ?_
  obtain ⟨c26, h⟩ := h
  obtain ⟨e26, h⟩ := h
  refine q_lald g 1 rfl c26 e26 (by decide) dX3_at_26 ?_
  refine q_goto g (4) 31 (by decide) dX3_at_27 ?_
  refine q_lv (lv' := []) [] rfl ?_
  exact s_X3_at_31 g hR hX3 aX3_shares r_shares r_size r_r_shares r_r_size Q hF (r_shares l1) (r_r_shares _) h
theorem dX3_putInOrder_0 : decode cX3_putInOrder 0 = .ok (.iconst 1, 1) := by decide +kernel
theorem dX3_putInOrder_1 : decode cX3_putInOrder 1 = .ok (.istore_n 1, 1) := by decide +kernel
theorem dX3_putInOrder_2 : decode cX3_putInOrder 2 = .ok (.iload_n 1, 1) := by decide +kernel
theorem dX3_putInOrder_3 : decode cX3_putInOrder 3 = .ok (.aload_n 0, 1) := by decide +kernel
theorem dX3_putInOrder_4 : decode cX3_putInOrder 4 = .ok (.getfield 15, 3) := by decide +kernel
theorem dX3_putInOrder_7 : decode cX3_putInOrder 7 = .ok (.if_icmp .ge 77, 3) := by decide +kernel
theorem dX3_putInOrder_10 : decode cX3_putInOrder 10 = .ok (.iload_n 1, 1) := by decide +kernel
theorem dX3_putInOrder_11 : decode cX3_putInOrder 11 = .ok (.aload_n 0, 1) := by decide +kernel
theorem dX3_putInOrder_12 : decode cX3_putInOrder 12 = .ok (.getfield 11, 3) := by decide +kernel
theorem dX3_putInOrder_15 : decode cX3_putInOrder 15 = .ok (.arraylength, 1) := by decide +kernel
theorem dX3_putInOrder_16 : decode cX3_putInOrder 16 = .ok (.if_icmp .ge 68, 3) := by decide +kernel
theorem dX3_putInOrder_19 : decode cX3_putInOrder 19 = .ok (.aload_n 0, 1) := by decide +kernel
theorem dX3_putInOrder_20 : decode cX3_putInOrder 20 = .ok (.getfield 11, 3) := by decide +kernel
theorem dX3_putInOrder_23 : decode cX3_putInOrder 23 = .ok (.iload_n 1, 1) := by decide +kernel
theorem dX3_putInOrder_24 : decode cX3_putInOrder 24 = .ok (.laload, 1) := by decide +kernel
theorem dX3_putInOrder_25 : decode cX3_putInOrder 25 = .ok (.lstore_n 2, 1) := by decide +kernel
theorem dX3_putInOrder_26 : decode cX3_putInOrder 26 = .ok (.iload_n 1, 1) := by decide +kernel
theorem dX3_putInOrder_27 : decode cX3_putInOrder 27 = .ok (.istore 4, 2) := by decide +kernel
theorem dX3_putInOrder_29 : decode cX3_putInOrder 29 = .ok (.iload 4, 2) := by decide +kernel
theorem dX3_putInOrder_31 : decode cX3_putInOrder 31 = .ok (.ifCond .le 39, 3) := by decide +kernel
theorem dX3_putInOrder_34 : decode cX3_putInOrder 34 = .ok (.aload_n 0, 1) := by decide +kernel
theorem dX3_putInOrder_35 : decode cX3_putInOrder 35 = .ok (.getfield 11, 3) := by decide +kernel
theorem dX3_putInOrder_38 : decode cX3_putInOrder 38 = .ok (.iload 4, 2) := by decide +kernel
theorem dX3_putInOrder_40 : decode cX3_putInOrder 40 = .ok (.iconst 1, 1) := by decide +kernel
theorem dX3_putInOrder_41 : decode cX3_putInOrder 41 = .ok (.isub, 1) := by decide +kernel
theorem dX3_putInOrder_42 : decode cX3_putInOrder 42 = .ok (.laload, 1) := by decide +kernel
theorem dX3_putInOrder_43 : decode cX3_putInOrder 43 = .ok (.lload_n 2, 1) := by decide +kernel
theorem dX3_putInOrder_44 : decode cX3_putInOrder 44 = .ok (.lcmp, 1) := by decide +kernel
theorem dX3_putInOrder_45 : decode cX3_putInOrder 45 = .ok (.ifCond .le 25, 3) := by decide +kernel
theorem dX3_putInOrder_48 : decode cX3_putInOrder 48 = .ok (.aload_n 0, 1) := by decide +kernel
theorem dX3_putInOrder_49 : decode cX3_putInOrder 49 = .ok (.getfield 11, 3) := by decide +kernel
theorem dX3_putInOrder_52 : decode cX3_putInOrder 52 = .ok (.iload 4, 2) := by decide +kernel
theorem dX3_putInOrder_54 : decode cX3_putInOrder 54 = .ok (.aload_n 0, 1) := by decide +kernel
theorem dX3_putInOrder_55 : decode cX3_putInOrder 55 = .ok (.getfield 11, 3) := by decide +kernel
theorem dX3_putInOrder_58 : decode cX3_putInOrder 58 = .ok (.iload 4, 2) := by decide +kernel
theorem dX3_putInOrder_60 : decode cX3_putInOrder 60 = .ok (.iconst 1, 1) := by decide +kernel
theorem dX3_putInOrder_61 : decode cX3_putInOrder 61 = .ok (.isub, 1) := by decide +kernel
theorem dX3_putInOrder_62 : decode cX3_putInOrder 62 = .ok (.laload, 1) := by decide +kernel
theorem dX3_putInOrder_63 : decode cX3_putInOrder 63 = .ok (.lastore, 1) := by decide +kernel
theorem dX3_putInOrder_64 : decode cX3_putInOrder 64 = .ok (.iinc 4 (-1), 3) := by decide +kernel
theorem dX3_putInOrder_67 : decode cX3_putInOrder 67 = .ok (.goto (-38), 3) := by decide +kernel
theorem dX3_putInOrder_70 : decode cX3_putInOrder 70 = .ok (.aload_n 0, 1) := by decide +kernel
theorem dX3_putInOrder_71 : decode cX3_putInOrder 71 = .ok (.getfield 11, 3) := by decide +kernel
theorem dX3_putInOrder_74 : decode cX3_putInOrder 74 = .ok (.iload 4, 2) := by decide +kernel
theorem dX3_putInOrder_76 : decode cX3_putInOrder 76 = .ok (.lload_n 2, 1) := by decide +kernel
theorem dX3_putInOrder_77 : decode cX3_putInOrder 77 = .ok (.lastore, 1) := by decide +kernel
theorem dX3_putInOrder_78 : decode cX3_putInOrder 78 = .ok (.iinc 1 1, 3) := by decide +kernel
theorem dX3_putInOrder_81 : decode cX3_putInOrder 81 = .ok (.goto (-79), 3) := by decide +kernel
theorem dX3_putInOrder_84 : decode cX3_putInOrder 84 = .ok (.return_, 1) := by decide +kernel
abbrev po_X3_putInOrder (cI cJ : ClassId) (hX3 : Nat) (aX3_shares : Nat) (r_size : Int) (Q : (Int → Int) → Prop) : Option Value → va_W → Prop := fun rv w1 => ∃ (r_shares : Int → Int), rv = none ∧ w1 = [(hX3, .inr (3, [.ref aX3_shares, .int (i32 r_size)])), (aX3_shares, aL cJ 16 r_shares)] ∧ rr64 r_shares ∧ Q r_shares
def wp_X3_putInOrder_70 (Q : (Int → Int) → Prop) (r_size : Int) (K_2 : (Int → Int) → Int → Prop) (r_shares : Int → Int) (l1 : Int) (l2 : Int) (l4 : Int) : Prop := (0 ≤ l4 ∧ l4 < 16 ∧ r32 (l1 + 1) ∧ K_2 (ups r_shares l4 l2) (l1 + 1))
set_option maxHeartbeats 4000000 in
set_option maxRecDepth 100000 in
theorem s_X3_putInOrder_70 {X : Cx} (g : Gd X cX3_putInOrder RX3 none 5) (hR : X.R = rmL 1 0 0) (hX3 : Nat) (aX3_shares : Nat) (r_size : Int) (r_r_size : r32 r_size) (Q : (Int → Int) → Prop) (hF : FQ X 0 0 (po_X3_putInOrder X.cI X.cJ hX3 aX3_shares r_size Q)) (K_2 : (Int → Int) → Int → Prop) (hK_2 : ∀ (r_shares : Int → Int) (l1 : Int), rr64 r_shares → r32 l1 → K_2 r_shares l1 → Wat X 0 0 2 [(0, .ref hX3), (1, .int (i32 l1))] [] [(hX3, .inr (3, [.ref aX3_shares, .int (i32 r_size)])), (aX3_shares, aL X.cJ 16 r_shares)]) : ∀ (r_shares : Int → Int) (l1 : Int) (l2 : Int) (l4 : Int), rr64 r_shares → r32 l1 → r64 l2 → r32 l4 → wp_X3_putInOrder_70 Q r_size K_2 r_shares l1 l2 l4 → Wat X 0 0 70 [(0, .ref hX3), (1, .int (i32 l1)), (2, .long (i64 l2)), (4, .int (i32 l4))] [] [(hX3, .inr (3, [.ref aX3_shares, .int (i32 r_size)])), (aX3_shares, aL X.cJ 16 r_shares)] := by
  intro r_shares l1 l2 l4 r_r_shares r_l1 r_l2 r_l4 h
  rw [wp_X3_putInOrder_70] at h
  refine q_aload_n g 0 0 rfl dX3_putInOrder_70 ?_
  refine q_get (C := RX3) (T := TX3) (N := 2) g 11 inX3 0 0 rfl rfl (by decide) wF_X3_11 rfl dX3_putInOrder_71 ?_
  refine q_iload g 4 3 rfl dX3_putInOrder_74 ?_
  refine q_lload_n g 2 2 rfl dX3_putInOrder_76 ?_
  obtain ⟨c77, h⟩ := h
  obtain ⟨e77, h⟩ := h
  refine q_last (ws' := [(hX3, .inr (3, [.ref aX3_shares, .int (i32 r_size)])), (aX3_shares, aL X.cJ 16 (ups r_shares l4 l2))]) g 1 rfl c77 e77 (by decide) rfl dX3_putInOrder_77 ?_
  obtain ⟨c78, h⟩ := h
  refine q_iinc (lv' := [(1, .int (i32 (l1 + 1))), (0, .ref hX3), (2, .long (i64 l2)), (4, .int (i32 l4))]) g 1 1 1 (by decide) rfl rfl dX3_putInOrder_78 ?_
  refine q_goto g (-79) 2 (by decide) dX3_putInOrder_81 ?_
  refine q_lv (lv' := [(0, .ref hX3), (1, .int (i32 (l1 + 1)))]) [1, 0] rfl ?_
  exact hK_2 (ups r_shares l4 l2) (l1 + 1) (rr64_u r_r_shares r_l2) c78 h
def wp_X3_putInOrder_29 (Q : (Int → Int) → Prop) (r_size : Int) (K_2 : (Int → Int) → Int → Prop) : Nat → (Int → Int) → Int → Int → Int → Prop
  | 0, _, _, _, _ => False
  | n + 1, r_shares, l1, l2, l4 => ((l4 ≤ 0 → wp_X3_putInOrder_70 Q r_size K_2 r_shares l1 l2 l4) ∧
  (¬ (l4 ≤ 0) → (r32 (l4 - 1) ∧ 0 ≤ (l4 - 1) ∧ (l4 - 1) < 16 ∧ (((r_shares (l4 - 1)) ≤ l2 → wp_X3_putInOrder_70 Q r_size K_2 r_shares l1 l2 l4) ∧
  (¬ ((r_shares (l4 - 1)) ≤ l2) → (r32 (l4 - 1) ∧ 0 ≤ (l4 - 1) ∧ (l4 - 1) < 16 ∧ ∀ x63 : Int, x63 = (r_shares (l4 - 1)) → 0 ≤ l4 ∧ l4 < 16 ∧ r32 (l4 + (-1)) ∧ wp_X3_putInOrder_29 Q r_size K_2 n (ups r_shares l4 x63) l1 l2 (l4 + (-1))))))))
set_option maxHeartbeats 4000000 in
set_option maxRecDepth 100000 in
theorem s_X3_putInOrder_29 {X : Cx} (g : Gd X cX3_putInOrder RX3 none 5) (hR : X.R = rmL 1 0 0) (hX3 : Nat) (aX3_shares : Nat) (r_size : Int) (r_r_size : r32 r_size) (Q : (Int → Int) → Prop) (hF : FQ X 0 0 (po_X3_putInOrder X.cI X.cJ hX3 aX3_shares r_size Q)) (K_2 : (Int → Int) → Int → Prop) (hK_2 : ∀ (r_shares : Int → Int) (l1 : Int), rr64 r_shares → r32 l1 → K_2 r_shares l1 → Wat X 0 0 2 [(0, .ref hX3), (1, .int (i32 l1))] [] [(hX3, .inr (3, [.ref aX3_shares, .int (i32 r_size)])), (aX3_shares, aL X.cJ 16 r_shares)]) : ∀ (n : Nat) (r_shares : Int → Int) (l1 : Int) (l2 : Int) (l4 : Int), rr64 r_shares → r32 l1 → r64 l2 → r32 l4 → wp_X3_putInOrder_29 Q r_size K_2 n r_shares l1 l2 l4 → Wat X 0 0 29 [(0, .ref hX3), (1, .int (i32 l1)), (2, .long (i64 l2)), (4, .int (i32 l4))] [] [(hX3, .inr (3, [.ref aX3_shares, .int (i32 r_size)])), (aX3_shares, aL X.cJ 16 r_shares)] := by
  intro n
  induction n with
  | zero => intro r_shares l1 l2 l4 r_r_shares r_l1 r_l2 r_l4 h; exact False.elim h
  | succ n ih =>
    intro r_shares l1 l2 l4 r_r_shares r_l1 r_l2 r_l4 h
    rw [wp_X3_putInOrder_29] at h
    refine q_iload g 4 3 rfl dX3_putInOrder_29 ?_
    refine q_if_le g (39) 70 r_l4 (by decide) dX3_putInOrder_31 (fun b31 => ?_) (fun b31 => ?_)
    · replace h := h.1 b31
      exact s_X3_putInOrder_70 g hR hX3 aX3_shares r_size r_r_size Q hF K_2 hK_2 r_shares l1 l2 l4 r_r_shares r_l1 r_l2 r_l4 h
    replace h := h.2 b31
    refine q_aload_n g 0 0 rfl dX3_putInOrder_34 ?_
    refine q_get (C := RX3) (T := TX3) (N := 2) g 11 inX3 0 0 rfl rfl (by decide) wF_X3_11 rfl dX3_putInOrder_35 ?_
    refine q_iload g 4 3 rfl dX3_putInOrder_38 ?_
    refine q_iconst g (1) dX3_putInOrder_40 ?_
    obtain ⟨c41, h⟩ := h
    refine q_isub g dX3_putInOrder_41 ?_
    obtain ⟨c42, h⟩ := h
    obtain ⟨e42, h⟩ := h
    refine q_lald g 1 rfl c42 e42 (by decide) dX3_putInOrder_42 ?_
    refine q_lload_n g 2 2 rfl dX3_putInOrder_43 ?_
    refine q_lcmp_le g (25) 70 (r_r_shares _) r_l2 (by decide) dX3_putInOrder_44 dX3_putInOrder_45 (fun b44 => ?_) (fun b44 => ?_)
    · replace h := h.1 b44
      exact s_X3_putInOrder_70 g hR hX3 aX3_shares r_size r_r_size Q hF K_2 hK_2 r_shares l1 l2 l4 r_r_shares r_l1 r_l2 r_l4 h
    replace h := h.2 b44
    refine q_aload_n g 0 0 rfl dX3_putInOrder_48 ?_
    refine q_get (C := RX3) (T := TX3) (N := 2) g 11 inX3 0 0 rfl rfl (by decide) wF_X3_11 rfl dX3_putInOrder_49 ?_
    refine q_iload g 4 3 rfl dX3_putInOrder_52 ?_
    refine q_aload_n g 0 0 rfl dX3_putInOrder_54 ?_
    refine q_get (C := RX3) (T := TX3) (N := 2) g 11 inX3 0 0 rfl rfl (by decide) wF_X3_11 rfl dX3_putInOrder_55 ?_
    refine q_iload g 4 3 rfl dX3_putInOrder_58 ?_
    refine q_iconst g (1) dX3_putInOrder_60 ?_
    obtain ⟨c61, h⟩ := h
    refine q_isub g dX3_putInOrder_61 ?_
    obtain ⟨c62, h⟩ := h
    obtain ⟨e62, h⟩ := h
    refine q_lald g 1 rfl c62 e62 (by decide) dX3_putInOrder_62 ?_
    refine q_topl (r_r_shares _) (fun x63 ex63 rx63 => ?_)
    replace h := h x63 ex63
    obtain ⟨c63, h⟩ := h
    obtain ⟨e63, h⟩ := h
    refine q_last (ws' := [(hX3, .inr (3, [.ref aX3_shares, .int (i32 r_size)])), (aX3_shares, aL X.cJ 16 (ups r_shares l4 x63))]) g 1 rfl c63 e63 (by decide) rfl dX3_putInOrder_63 ?_
    obtain ⟨c64, h⟩ := h
    refine q_iinc (lv' := [(4, .int (i32 (l4 + (-1)))), (0, .ref hX3), (1, .int (i32 l1)), (2, .long (i64 l2))]) g 4 3 (-1) (by decide) rfl rfl dX3_putInOrder_64 ?_
    refine q_goto g (-38) 29 (by decide) dX3_putInOrder_67 ?_
    refine q_lv (lv' := [(0, .ref hX3), (1, .int (i32 l1)), (2, .long (i64 l2)), (4, .int (i32 (l4 + (-1))))]) [1, 2, 3, 0] rfl ?_
    exact ih (ups r_shares l4 x63) l1 l2 (l4 + (-1)) (rr64_u r_r_shares rx63) r_l1 r_l2 c64 h
def wp_X3_putInOrder_84 (Q : (Int → Int) → Prop) (r_size : Int) (r_shares : Int → Int) : Prop := Q r_shares
set_option maxHeartbeats 4000000 in
set_option maxRecDepth 100000 in
theorem s_X3_putInOrder_84 {X : Cx} (g : Gd X cX3_putInOrder RX3 none 5) (hR : X.R = rmL 1 0 0) (hX3 : Nat) (aX3_shares : Nat) (r_size : Int) (r_r_size : r32 r_size) (Q : (Int → Int) → Prop) (hF : FQ X 0 0 (po_X3_putInOrder X.cI X.cJ hX3 aX3_shares r_size Q)) : ∀ (r_shares : Int → Int), rr64 r_shares → wp_X3_putInOrder_84 Q r_size r_shares → Wat X 0 0 84 [] [] [(hX3, .inr (3, [.ref aX3_shares, .int (i32 r_size)])), (aX3_shares, aL X.cJ 16 r_shares)] := by
  intro r_shares r_r_shares h
  rw [wp_X3_putInOrder_84] at h
  exact q_vret g hF ⟨r_shares, rfl, rfl, r_r_shares, h⟩ dX3_putInOrder_84
def wp_X3_putInOrder_2 (Q : (Int → Int) → Prop) (r_size : Int) : Nat → (Int → Int) → Int → Prop
  | 0, _, _ => False
  | n + 1, r_shares, l1 => ((r_size ≤ l1 → wp_X3_putInOrder_84 Q r_size r_shares) ∧
  (¬ (r_size ≤ l1) → ((16 ≤ l1 → wp_X3_putInOrder_84 Q r_size r_shares) ∧
  (¬ (16 ≤ l1) → (0 ≤ l1 ∧ l1 < 16 ∧ ∀ x25 : Int, x25 = (r_shares l1) → (∃ n0 : Nat, wp_X3_putInOrder_29 Q r_size (wp_X3_putInOrder_2 Q r_size n) n0 r_shares l1 x25 l1))))))
set_option maxHeartbeats 4000000 in
set_option maxRecDepth 100000 in
theorem s_X3_putInOrder_2 {X : Cx} (g : Gd X cX3_putInOrder RX3 none 5) (hR : X.R = rmL 1 0 0) (hX3 : Nat) (aX3_shares : Nat) (r_size : Int) (r_r_size : r32 r_size) (Q : (Int → Int) → Prop) (hF : FQ X 0 0 (po_X3_putInOrder X.cI X.cJ hX3 aX3_shares r_size Q)) : ∀ (n : Nat) (r_shares : Int → Int) (l1 : Int), rr64 r_shares → r32 l1 → wp_X3_putInOrder_2 Q r_size n r_shares l1 → Wat X 0 0 2 [(0, .ref hX3), (1, .int (i32 l1))] [] [(hX3, .inr (3, [.ref aX3_shares, .int (i32 r_size)])), (aX3_shares, aL X.cJ 16 r_shares)] := by
  intro n
  induction n with
  | zero => intro r_shares l1 r_r_shares r_l1 h; exact False.elim h
  | succ n ih =>
    intro r_shares l1 r_r_shares r_l1 h
    rw [wp_X3_putInOrder_2] at h
    refine q_iload_n g 1 1 rfl dX3_putInOrder_2 ?_
    refine q_aload_n g 0 0 rfl dX3_putInOrder_3 ?_
    refine q_get (C := RX3) (T := TX3) (N := 2) g 15 inX3 0 1 rfl rfl (by decide) wF_X3_15 rfl dX3_putInOrder_4 ?_
    refine q_icmp_ge g (77) 84 r_l1 r_r_size (by decide) dX3_putInOrder_7 (fun b7 => ?_) (fun b7 => ?_)
    · replace h := h.1 b7
      refine q_lv (lv' := []) [] rfl ?_
      exact s_X3_putInOrder_84 g hR hX3 aX3_shares r_size r_r_size Q hF r_shares r_r_shares h
    replace h := h.2 b7
    refine q_iload_n g 1 1 rfl dX3_putInOrder_10 ?_
    refine q_aload_n g 0 0 rfl dX3_putInOrder_11 ?_
    refine q_get (C := RX3) (T := TX3) (N := 2) g 11 inX3 0 0 rfl rfl (by decide) wF_X3_11 rfl dX3_putInOrder_12 ?_
    refine q_alenL g 1 16 rfl rfl dX3_putInOrder_15 ?_
    refine q_icmp_ge g (68) 84 r_l1 (r32_lit _ (by decide)) (by decide) dX3_putInOrder_16 (fun b16 => ?_) (fun b16 => ?_)
    · replace h := h.1 b16
      refine q_lv (lv' := []) [] rfl ?_
      exact s_X3_putInOrder_84 g hR hX3 aX3_shares r_size r_r_size Q hF r_shares r_r_shares h
    replace h := h.2 b16
    refine q_aload_n g 0 0 rfl dX3_putInOrder_19 ?_
    refine q_get (C := RX3) (T := TX3) (N := 2) g 11 inX3 0 0 rfl rfl (by decide) wF_X3_11 rfl dX3_putInOrder_20 ?_
    refine q_iload_n g 1 1 rfl dX3_putInOrder_23 ?_
    obtain ⟨c24, h⟩ := h
    obtain ⟨e24, h⟩ := h
    refine q_lald g 1 rfl c24 e24 (by decide) dX3_putInOrder_24 ?_
    refine q_topl (r_r_shares _) (fun x25 ex25 rx25 => ?_)
    replace h := h x25 ex25
    refine q_lstore_n (lv' := [(2, .long (i64 x25)), (0, .ref hX3), (1, .int (i32 l1))]) g 2 2 rfl (by decide) rfl dX3_putInOrder_25 ?_
    refine q_iload_n g 1 2 rfl dX3_putInOrder_26 ?_
    refine q_istore (lv' := [(4, .int (i32 l1)), (2, .long (i64 x25)), (0, .ref hX3), (1, .int (i32 l1))]) g 4   (by decide) rfl dX3_putInOrder_27 ?_
    refine q_lv (lv' := [(0, .ref hX3), (1, .int (i32 l1)), (2, .long (i64 x25)), (4, .int (i32 l1))]) [2, 3, 1, 0] rfl ?_
    obtain ⟨n0, h⟩ := h
    exact s_X3_putInOrder_29 g hR hX3 aX3_shares r_size r_r_size Q hF (wp_X3_putInOrder_2 Q r_size n) (fun v0 v1 w0 w1 hh => ih v0 v1 w0 w1 hh) n0 r_shares l1 x25 l1 r_r_shares r_l1 rx25 r_l1 h
def wp_X3_putInOrder (Q : (Int → Int) → Prop) (r_shares : Int → Int) (r_size : Int) : Prop := (∃ n0 : Nat, wp_X3_putInOrder_2 Q r_size n0 r_shares 1)
set_option maxHeartbeats 4000000 in
set_option maxRecDepth 100000 in
theorem c_X3_putInOrder (l : Launch) (D : va_G) (cI cJ : ClassId) (zt : Nat) (hX3 : Nat) (aX3_shares : Nat) (r_size : Int) (r_shares : Int → Int) (Q : (Int → Int) → Prop) (r_r_shares : rr64 r_shares) (r_r_size : r32 r_size) (h : wp_X3_putInOrder Q r_shares r_size) : Ct l D cI cJ zt yX3_putInOrder cX3_putInOrder 5 none 1 0 0 [.ref hX3] [(hX3, .inr (3, [.ref aX3_shares, .int (i32 r_size)])), (aX3_shares, aL cJ 16 r_shares)] (po_X3_putInOrder cI cJ hX3 aX3_shares r_size Q) := by
  refine ct_of (by decide +kernel) (Nat.le_of_ble_eq_true rfl) (fun X hl hDD hcI hcJ hzt hR hF hnm g => ?_)
  subst hl; subst hDD; subst hcI; subst hcJ; subst hzt
  show Wat X 0 0 0 [(0, .ref hX3)] [] [(hX3, .inr (3, [.ref aX3_shares, .int (i32 r_size)])), (aX3_shares, aL X.cJ 16 r_shares)]
  replace g : Gd X cX3_putInOrder RX3 none 5 := g
  rw [wp_X3_putInOrder] at h
  refine q_iconst g (1) dX3_putInOrder_0 ?_
  refine q_istore_n (lv' := [(1, .int (i32 1)), (0, .ref hX3)]) g 1 1 rfl (by decide) rfl dX3_putInOrder_1 ?_
  refine q_lv (lv' := [(0, .ref hX3), (1, .int (i32 1))]) [1, 0] rfl ?_
  obtain ⟨n0, h⟩ := h
  exact s_X3_putInOrder_2 g hR hX3 aX3_shares r_size r_r_size Q hF n0 r_shares 1 r_r_shares (r32_lit _ (by decide)) h
theorem dX3_leastTwin_0 : decode cX3_leastTwin 0 = .ok (.aload_n 0, 1) := by decide +kernel
theorem dX3_leastTwin_1 : decode cX3_leastTwin 1 = .ok (.invokevirtual 23, 3) := by decide +kernel
theorem dX3_leastTwin_4 : decode cX3_leastTwin 4 = .ok (.iconst 1, 1) := by decide +kernel
theorem dX3_leastTwin_5 : decode cX3_leastTwin 5 = .ok (.istore_n 1, 1) := by decide +kernel
theorem dX3_leastTwin_6 : decode cX3_leastTwin 6 = .ok (.iload_n 1, 1) := by decide +kernel
theorem dX3_leastTwin_7 : decode cX3_leastTwin 7 = .ok (.aload_n 0, 1) := by decide +kernel
theorem dX3_leastTwin_8 : decode cX3_leastTwin 8 = .ok (.getfield 15, 3) := by decide +kernel
theorem dX3_leastTwin_11 : decode cX3_leastTwin 11 = .ok (.if_icmp .ge 38, 3) := by decide +kernel
theorem dX3_leastTwin_14 : decode cX3_leastTwin 14 = .ok (.iload_n 1, 1) := by decide +kernel
theorem dX3_leastTwin_15 : decode cX3_leastTwin 15 = .ok (.aload_n 0, 1) := by decide +kernel
theorem dX3_leastTwin_16 : decode cX3_leastTwin 16 = .ok (.getfield 11, 3) := by decide +kernel
theorem dX3_leastTwin_19 : decode cX3_leastTwin 19 = .ok (.arraylength, 1) := by decide +kernel
theorem dX3_leastTwin_20 : decode cX3_leastTwin 20 = .ok (.if_icmp .ge 29, 3) := by decide +kernel
theorem dX3_leastTwin_23 : decode cX3_leastTwin 23 = .ok (.aload_n 0, 1) := by decide +kernel
theorem dX3_leastTwin_24 : decode cX3_leastTwin 24 = .ok (.getfield 11, 3) := by decide +kernel
theorem dX3_leastTwin_27 : decode cX3_leastTwin 27 = .ok (.iload_n 1, 1) := by decide +kernel
theorem dX3_leastTwin_28 : decode cX3_leastTwin 28 = .ok (.iconst 1, 1) := by decide +kernel
theorem dX3_leastTwin_29 : decode cX3_leastTwin 29 = .ok (.isub, 1) := by decide +kernel
theorem dX3_leastTwin_30 : decode cX3_leastTwin 30 = .ok (.laload, 1) := by decide +kernel
theorem dX3_leastTwin_31 : decode cX3_leastTwin 31 = .ok (.aload_n 0, 1) := by decide +kernel
theorem dX3_leastTwin_32 : decode cX3_leastTwin 32 = .ok (.getfield 11, 3) := by decide +kernel
theorem dX3_leastTwin_35 : decode cX3_leastTwin 35 = .ok (.iload_n 1, 1) := by decide +kernel
theorem dX3_leastTwin_36 : decode cX3_leastTwin 36 = .ok (.laload, 1) := by decide +kernel
theorem dX3_leastTwin_37 : decode cX3_leastTwin 37 = .ok (.lcmp, 1) := by decide +kernel
theorem dX3_leastTwin_38 : decode cX3_leastTwin 38 = .ok (.ifCond .ne 5, 3) := by decide +kernel
theorem dX3_leastTwin_41 : decode cX3_leastTwin 41 = .ok (.iload_n 1, 1) := by decide +kernel
theorem dX3_leastTwin_42 : decode cX3_leastTwin 42 = .ok (.ireturn, 1) := by decide +kernel
theorem dX3_leastTwin_43 : decode cX3_leastTwin 43 = .ok (.iinc 1 1, 3) := by decide +kernel
theorem dX3_leastTwin_46 : decode cX3_leastTwin 46 = .ok (.goto (-40), 3) := by decide +kernel
theorem dX3_leastTwin_49 : decode cX3_leastTwin 49 = .ok (.iconst (-1), 1) := by decide +kernel
theorem dX3_leastTwin_50 : decode cX3_leastTwin 50 = .ok (.ireturn, 1) := by decide +kernel
abbrev po_X3_leastTwin (cI cJ : ClassId) (hX3 : Nat) (aX3_shares : Nat) (r_size : Int) (Q : Int → (Int → Int) → Prop) : Option Value → va_W → Prop := fun rv w1 => ∃ (r0 : Int) (r_shares : Int → Int), rv = some (.int (i32 r0)) ∧ w1 = [(hX3, .inr (3, [.ref aX3_shares, .int (i32 r_size)])), (aX3_shares, aL cJ 16 r_shares)] ∧ r32 r0 ∧ rr64 r_shares ∧ Q r0 r_shares
def wp_X3_leastTwin_49 (Q : Int → (Int → Int) → Prop) (r_size : Int) (r_shares : Int → Int) : Prop := Q (-1) r_shares
set_option maxHeartbeats 4000000 in
set_option maxRecDepth 100000 in
theorem s_X3_leastTwin_49 {X : Cx} (g : Gd X cX3_leastTwin RX3 (some .int) 2) (hR : X.R = rmL 2 0 0) (hX3 : Nat) (aX3_shares : Nat) (r_size : Int) (r_r_size : r32 r_size) (Q : Int → (Int → Int) → Prop) (hF : FQ X 0 0 (po_X3_leastTwin X.cI X.cJ hX3 aX3_shares r_size Q)) : ∀ (r_shares : Int → Int), rr64 r_shares → wp_X3_leastTwin_49 Q r_size r_shares → Wat X 0 0 49 [] [] [(hX3, .inr (3, [.ref aX3_shares, .int (i32 r_size)])), (aX3_shares, aL X.cJ 16 r_shares)] := by
  intro r_shares r_r_shares h
  rw [wp_X3_leastTwin_49] at h
  refine q_iconst g (-1) dX3_leastTwin_49 ?_
  exact q_iret g hF ⟨(-1), r_shares, rfl, rfl, (r32_lit _ (by decide)), r_r_shares, h⟩ dX3_leastTwin_50
def wp_X3_leastTwin_6 (Q : Int → (Int → Int) → Prop) (r_size : Int) : Nat → (Int → Int) → Int → Prop
  | 0, _, _ => False
  | n + 1, r_shares, l1 => ((r_size ≤ l1 → wp_X3_leastTwin_49 Q r_size r_shares) ∧
  (¬ (r_size ≤ l1) → ((16 ≤ l1 → wp_X3_leastTwin_49 Q r_size r_shares) ∧
  (¬ (16 ≤ l1) → (r32 (l1 - 1) ∧ 0 ≤ (l1 - 1) ∧ (l1 - 1) < 16 ∧ 0 ≤ l1 ∧ l1 < 16 ∧ ((¬ (r_shares (l1 - 1)) = (r_shares l1) → (r32 (l1 + 1) ∧ wp_X3_leastTwin_6 Q r_size n r_shares (l1 + 1))) ∧
  ((r_shares (l1 - 1)) = (r_shares l1) → Q l1 r_shares)))))))
set_option maxHeartbeats 4000000 in
set_option maxRecDepth 100000 in
theorem s_X3_leastTwin_6 {X : Cx} (g : Gd X cX3_leastTwin RX3 (some .int) 2) (hR : X.R = rmL 2 0 0) (hX3 : Nat) (aX3_shares : Nat) (r_size : Int) (r_r_size : r32 r_size) (Q : Int → (Int → Int) → Prop) (hF : FQ X 0 0 (po_X3_leastTwin X.cI X.cJ hX3 aX3_shares r_size Q)) : ∀ (n : Nat) (r_shares : Int → Int) (l1 : Int), rr64 r_shares → r32 l1 → wp_X3_leastTwin_6 Q r_size n r_shares l1 → Wat X 0 0 6 [(0, .ref hX3), (1, .int (i32 l1))] [] [(hX3, .inr (3, [.ref aX3_shares, .int (i32 r_size)])), (aX3_shares, aL X.cJ 16 r_shares)] := by
  intro n
  induction n with
  | zero => intro r_shares l1 r_r_shares r_l1 h; exact False.elim h
  | succ n ih =>
    intro r_shares l1 r_r_shares r_l1 h
    rw [wp_X3_leastTwin_6] at h
    refine q_iload_n g 1 1 rfl dX3_leastTwin_6 ?_
    refine q_aload_n g 0 0 rfl dX3_leastTwin_7 ?_
    refine q_get (C := RX3) (T := TX3) (N := 2) g 15 inX3 0 1 rfl rfl (by decide) wF_X3_15 rfl dX3_leastTwin_8 ?_
    refine q_icmp_ge g (38) 49 r_l1 r_r_size (by decide) dX3_leastTwin_11 (fun b11 => ?_) (fun b11 => ?_)
    · replace h := h.1 b11
      refine q_lv (lv' := []) [] rfl ?_
      exact s_X3_leastTwin_49 g hR hX3 aX3_shares r_size r_r_size Q hF r_shares r_r_shares h
    replace h := h.2 b11
    refine q_iload_n g 1 1 rfl dX3_leastTwin_14 ?_
    refine q_aload_n g 0 0 rfl dX3_leastTwin_15 ?_
    refine q_get (C := RX3) (T := TX3) (N := 2) g 11 inX3 0 0 rfl rfl (by decide) wF_X3_11 rfl dX3_leastTwin_16 ?_
    refine q_alenL g 1 16 rfl rfl dX3_leastTwin_19 ?_
    refine q_icmp_ge g (29) 49 r_l1 (r32_lit _ (by decide)) (by decide) dX3_leastTwin_20 (fun b20 => ?_) (fun b20 => ?_)
    · replace h := h.1 b20
      refine q_lv (lv' := []) [] rfl ?_
      exact s_X3_leastTwin_49 g hR hX3 aX3_shares r_size r_r_size Q hF r_shares r_r_shares h
    replace h := h.2 b20
    refine q_aload_n g 0 0 rfl dX3_leastTwin_23 ?_
    refine q_get (C := RX3) (T := TX3) (N := 2) g 11 inX3 0 0 rfl rfl (by decide) wF_X3_11 rfl dX3_leastTwin_24 ?_
    refine q_iload_n g 1 1 rfl dX3_leastTwin_27 ?_
    refine q_iconst g (1) dX3_leastTwin_28 ?_
    obtain ⟨c29, h⟩ := h
    refine q_isub g dX3_leastTwin_29 ?_
    obtain ⟨c30, h⟩ := h
    obtain ⟨e30, h⟩ := h
    refine q_lald g 1 rfl c30 e30 (by decide) dX3_leastTwin_30 ?_
    refine q_aload_n g 0 0 rfl dX3_leastTwin_31 ?_
    refine q_get (C := RX3) (T := TX3) (N := 2) g 11 inX3 0 0 rfl rfl (by decide) wF_X3_11 rfl dX3_leastTwin_32 ?_
    refine q_iload_n g 1 1 rfl dX3_leastTwin_35 ?_
    obtain ⟨c36, h⟩ := h
    obtain ⟨e36, h⟩ := h
    refine q_lald g 1 rfl c36 e36 (by decide) dX3_leastTwin_36 ?_
    refine q_lcmp_ne g (5) 43 (r_r_shares _) (r_r_shares _) (by decide) dX3_leastTwin_37 dX3_leastTwin_38 (fun b37 => ?_) (fun b37 => ?_)
    · replace h := h.1 b37
      obtain ⟨c43, h⟩ := h
      refine q_iinc (lv' := [(1, .int (i32 (l1 + 1))), (0, .ref hX3)]) g 1 1 1 (by decide) rfl rfl dX3_leastTwin_43 ?_
      refine q_goto g (-40) 6 (by decide) dX3_leastTwin_46 ?_
      refine q_lv (lv' := [(0, .ref hX3), (1, .int (i32 (l1 + 1)))]) [1, 0] rfl ?_
      exact ih r_shares (l1 + 1) r_r_shares c43 h
    replace h := h.2 b37
    refine q_iload_n g 1 1 rfl dX3_leastTwin_41 ?_
    exact q_iret g hF ⟨l1, r_shares, rfl, rfl, r_l1, r_r_shares, h⟩ dX3_leastTwin_42
def wp_X3_leastTwin (Q : Int → (Int → Int) → Prop) (r_shares : Int → Int) (r_size : Int) : Prop := wp_X3_putInOrder (fun (r_shares_1 : Int → Int) => (∃ n0 : Nat, wp_X3_leastTwin_6 Q r_size n0 r_shares_1 1)) r_shares r_size
set_option maxHeartbeats 4000000 in
set_option maxRecDepth 100000 in
theorem c_X3_leastTwin (l : Launch) (D : va_G) (cI cJ : ClassId) (zt : Nat) (hX3 : Nat) (aX3_shares : Nat) (r_size : Int) (r_shares : Int → Int) (Q : Int → (Int → Int) → Prop) (r_r_shares : rr64 r_shares) (r_r_size : r32 r_size) (h : wp_X3_leastTwin Q r_shares r_size) : Ct l D cI cJ zt yX3_leastTwin cX3_leastTwin 2 (some .int) 2 0 0 [.ref hX3] [(hX3, .inr (3, [.ref aX3_shares, .int (i32 r_size)])), (aX3_shares, aL cJ 16 r_shares)] (po_X3_leastTwin cI cJ hX3 aX3_shares r_size Q) := by
  refine ct_of (by decide +kernel) (Nat.le_of_ble_eq_true rfl) (fun X hl hDD hcI hcJ hzt hR hF hnm g => ?_)
  subst hl; subst hDD; subst hcI; subst hcJ; subst hzt
  show Wat X 0 0 0 [(0, .ref hX3)] [] [(hX3, .inr (3, [.ref aX3_shares, .int (i32 r_size)])), (aX3_shares, aL X.cJ 16 r_shares)]
  replace g : Gd X cX3_leastTwin RX3 (some .int) 2 := g
  rw [wp_X3_leastTwin] at h
  refine q_aload_n g 0 0 rfl dX3_leastTwin_0 ?_
  refine q_callV (lev := 1) (mc := 0) (ms := 0) g 23 (c_X3_putInOrder X.l X.D X.cI X.cJ X.zt hX3 aX3_shares r_size r_shares _ r_r_shares r_r_size h) (wr := []) [0, 1] [] rfl rfl rfl (by decide) (by decide) (by decide) (ci := 3) rfl rfl rfl wM_X3_23 wI_X3_putInOrder wS_X3_putInOrder wZ_X3 wC_X3_putInOrder 0 rfl (by decide +kernel) (by rw [hR]; exact ⟨by show 1 + 1 ≤ 2; omega, by show 8 + (5 + 11) + 100 * 1 ≤ 100 * 2; omega⟩) (by rw [hR]; exact ⟨Nat.le_refl _, Nat.le_refl _⟩) (Nat.le_of_ble_eq_true rfl) rfl dX3_leastTwin_1 (fun rv w1 hq => ?_)
  obtain ⟨r_shares_1, rfl, rfl, rr_shares_1, h⟩ := hq
  show Wat X 0 0 4 [(0, .ref hX3)] [] [(hX3, .inr (3, [.ref aX3_shares, .int (i32 r_size)])), (aX3_shares, aL X.cJ 16 r_shares_1)]
  refine q_iconst g (1) dX3_leastTwin_4 ?_
  refine q_istore_n (lv' := [(1, .int (i32 1)), (0, .ref hX3)]) g 1 1 rfl (by decide) rfl dX3_leastTwin_5 ?_
  refine q_lv (lv' := [(0, .ref hX3), (1, .int (i32 1))]) [1, 0] rfl ?_
  obtain ⟨n0, h⟩ := h
  exact s_X3_leastTwin_6 g hR hX3 aX3_shares r_size r_r_size Q hF n0 r_shares_1 1 rr_shares_1 (r32_lit _ (by decide)) h
theorem dX3_byCutting_0 : decode cX3_byCutting 0 = .ok (.lload_n 1, 1) := by decide +kernel
theorem dX3_byCutting_1 : decode cX3_byCutting 1 = .ok (.ldc2_w 62, 3) := by decide +kernel
theorem dX3_byCutting_4 : decode cX3_byCutting 4 = .ok (.lcmp, 1) := by decide +kernel
theorem dX3_byCutting_5 : decode cX3_byCutting 5 = .ok (.ifCond .le 5, 3) := by decide +kernel
theorem dX3_byCutting_8 : decode cX3_byCutting 8 = .ok (.iconst 0, 1) := by decide +kernel
theorem dX3_byCutting_9 : decode cX3_byCutting 9 = .ok (.ireturn, 1) := by decide +kernel
theorem dX3_byCutting_10 : decode cX3_byCutting 10 = .ok (.iconst 0, 1) := by decide +kernel
theorem dX3_byCutting_11 : decode cX3_byCutting 11 = .ok (.istore 5, 2) := by decide +kernel
theorem dX3_byCutting_13 : decode cX3_byCutting 13 = .ok (.iload 5, 2) := by decide +kernel
theorem dX3_byCutting_15 : decode cX3_byCutting 15 = .ok (.i2l, 1) := by decide +kernel
theorem dX3_byCutting_16 : decode cX3_byCutting 16 = .ok (.lload_n 1, 1) := by decide +kernel
theorem dX3_byCutting_17 : decode cX3_byCutting 17 = .ok (.lcmp, 1) := by decide +kernel
theorem dX3_byCutting_18 : decode cX3_byCutting 18 = .ok (.ifCond .ge 19, 3) := by decide +kernel
theorem dX3_byCutting_21 : decode cX3_byCutting 21 = .ok (.aload_n 0, 1) := by decide +kernel
theorem dX3_byCutting_22 : decode cX3_byCutting 22 = .ok (.lload_n 3, 1) := by decide +kernel
theorem dX3_byCutting_23 : decode cX3_byCutting 23 = .ok (.invokevirtual 53, 3) := by decide +kernel
theorem dX3_byCutting_26 : decode cX3_byCutting 26 = .ok (.ifCond .ne 5, 3) := by decide +kernel
theorem dX3_byCutting_29 : decode cX3_byCutting 29 = .ok (.iconst 0, 1) := by decide +kernel
theorem dX3_byCutting_30 : decode cX3_byCutting 30 = .ok (.ireturn, 1) := by decide +kernel
theorem dX3_byCutting_31 : decode cX3_byCutting 31 = .ok (.iinc 5 1, 3) := by decide +kernel
theorem dX3_byCutting_34 : decode cX3_byCutting 34 = .ok (.goto (-21), 3) := by decide +kernel
theorem dX3_byCutting_37 : decode cX3_byCutting 37 = .ok (.iconst 0, 1) := by decide +kernel
theorem dX3_byCutting_38 : decode cX3_byCutting 38 = .ok (.istore 5, 2) := by decide +kernel
theorem dX3_byCutting_40 : decode cX3_byCutting 40 = .ok (.iload 5, 2) := by decide +kernel
theorem dX3_byCutting_42 : decode cX3_byCutting 42 = .ok (.bipush 16, 2) := by decide +kernel
theorem dX3_byCutting_44 : decode cX3_byCutting 44 = .ok (.if_icmp .gt 89, 3) := by decide +kernel
theorem dX3_byCutting_47 : decode cX3_byCutting 47 = .ok (.aload_n 0, 1) := by decide +kernel
theorem dX3_byCutting_48 : decode cX3_byCutting 48 = .ok (.invokevirtual 64, 3) := by decide +kernel
theorem dX3_byCutting_51 : decode cX3_byCutting 51 = .ok (.istore 6, 2) := by decide +kernel
theorem dX3_byCutting_53 : decode cX3_byCutting 53 = .ok (.iload 6, 2) := by decide +kernel
theorem dX3_byCutting_55 : decode cX3_byCutting 55 = .ok (.ifCond .lt 13, 3) := by decide +kernel
theorem dX3_byCutting_58 : decode cX3_byCutting 58 = .ok (.iload 6, 2) := by decide +kernel
theorem dX3_byCutting_60 : decode cX3_byCutting 60 = .ok (.aload_n 0, 1) := by decide +kernel
theorem dX3_byCutting_61 : decode cX3_byCutting 61 = .ok (.getfield 11, 3) := by decide +kernel
theorem dX3_byCutting_64 : decode cX3_byCutting 64 = .ok (.arraylength, 1) := by decide +kernel
theorem dX3_byCutting_65 : decode cX3_byCutting 65 = .ok (.if_icmp .lt 5, 3) := by decide +kernel
theorem dX3_byCutting_68 : decode cX3_byCutting 68 = .ok (.iconst 1, 1) := by decide +kernel
theorem dX3_byCutting_69 : decode cX3_byCutting 69 = .ok (.ireturn, 1) := by decide +kernel
theorem dX3_byCutting_70 : decode cX3_byCutting 70 = .ok (.aload_n 0, 1) := by decide +kernel
theorem dX3_byCutting_71 : decode cX3_byCutting 71 = .ok (.getfield 11, 3) := by decide +kernel
theorem dX3_byCutting_74 : decode cX3_byCutting 74 = .ok (.iload 6, 2) := by decide +kernel
theorem dX3_byCutting_76 : decode cX3_byCutting 76 = .ok (.laload, 1) := by decide +kernel
theorem dX3_byCutting_77 : decode cX3_byCutting 77 = .ok (.lstore 7, 2) := by decide +kernel
theorem dX3_byCutting_79 : decode cX3_byCutting 79 = .ok (.lload 7, 2) := by decide +kernel
theorem dX3_byCutting_81 : decode cX3_byCutting 81 = .ok (.lconst 1, 1) := by decide +kernel
theorem dX3_byCutting_82 : decode cX3_byCutting 82 = .ok (.lcmp, 1) := by decide +kernel
theorem dX3_byCutting_83 : decode cX3_byCutting 83 = .ok (.ifCond .lt 31, 3) := by decide +kernel
theorem dX3_byCutting_86 : decode cX3_byCutting 86 = .ok (.lload 7, 2) := by decide +kernel
theorem dX3_byCutting_88 : decode cX3_byCutting 88 = .ok (.lconst 1, 1) := by decide +kernel
theorem dX3_byCutting_89 : decode cX3_byCutting 89 = .ok (.ladd, 1) := by decide +kernel
theorem dX3_byCutting_90 : decode cX3_byCutting 90 = .ok (.ldc2_w 40, 3) := by decide +kernel
theorem dX3_byCutting_93 : decode cX3_byCutting 93 = .ok (.lload 7, 2) := by decide +kernel
theorem dX3_byCutting_95 : decode cX3_byCutting 95 = .ok (.ldiv, 1) := by decide +kernel
theorem dX3_byCutting_96 : decode cX3_byCutting 96 = .ok (.lcmp, 1) := by decide +kernel
theorem dX3_byCutting_97 : decode cX3_byCutting 97 = .ok (.ifCond .gt 17, 3) := by decide +kernel
theorem dX3_byCutting_100 : decode cX3_byCutting 100 = .ok (.aload_n 0, 1) := by decide +kernel
theorem dX3_byCutting_101 : decode cX3_byCutting 101 = .ok (.lload 7, 2) := by decide +kernel
theorem dX3_byCutting_103 : decode cX3_byCutting 103 = .ok (.lload 7, 2) := by decide +kernel
theorem dX3_byCutting_105 : decode cX3_byCutting 105 = .ok (.lconst 1, 1) := by decide +kernel
theorem dX3_byCutting_106 : decode cX3_byCutting 106 = .ok (.ladd, 1) := by decide +kernel
theorem dX3_byCutting_107 : decode cX3_byCutting 107 = .ok (.lmul, 1) := by decide +kernel
theorem dX3_byCutting_108 : decode cX3_byCutting 108 = .ok (.invokevirtual 53, 3) := by decide +kernel
theorem dX3_byCutting_111 : decode cX3_byCutting 111 = .ok (.ifCond .ne 5, 3) := by decide +kernel
theorem dX3_byCutting_114 : decode cX3_byCutting 114 = .ok (.iconst 0, 1) := by decide +kernel
theorem dX3_byCutting_115 : decode cX3_byCutting 115 = .ok (.ireturn, 1) := by decide +kernel
theorem dX3_byCutting_116 : decode cX3_byCutting 116 = .ok (.aload_n 0, 1) := by decide +kernel
theorem dX3_byCutting_117 : decode cX3_byCutting 117 = .ok (.getfield 11, 3) := by decide +kernel
theorem dX3_byCutting_120 : decode cX3_byCutting 120 = .ok (.iload 6, 2) := by decide +kernel
theorem dX3_byCutting_122 : decode cX3_byCutting 122 = .ok (.lload 7, 2) := by decide +kernel
theorem dX3_byCutting_124 : decode cX3_byCutting 124 = .ok (.lconst 1, 1) := by decide +kernel
theorem dX3_byCutting_125 : decode cX3_byCutting 125 = .ok (.ladd, 1) := by decide +kernel
theorem dX3_byCutting_126 : decode cX3_byCutting 126 = .ok (.lastore, 1) := by decide +kernel
theorem dX3_byCutting_127 : decode cX3_byCutting 127 = .ok (.iinc 5 1, 3) := by decide +kernel
theorem dX3_byCutting_130 : decode cX3_byCutting 130 = .ok (.goto (-90), 3) := by decide +kernel
theorem dX3_byCutting_133 : decode cX3_byCutting 133 = .ok (.iconst 0, 1) := by decide +kernel
theorem dX3_byCutting_134 : decode cX3_byCutting 134 = .ok (.ireturn, 1) := by decide +kernel
abbrev po_X3_byCutting (cI cJ : ClassId) (hX3 : Nat) (aX3_shares : Nat) (Q : Int → (Int → Int) → Int → Prop) : Option Value → va_W → Prop := fun rv w1 => ∃ (r0 : Int) (r_shares : Int → Int) (r_size : Int), rv = some (.int (i32 r0)) ∧ w1 = [(hX3, .inr (3, [.ref aX3_shares, .int (i32 r_size)])), (aX3_shares, aL cJ 16 r_shares)] ∧ r32 r0 ∧ rr64 r_shares ∧ r32 r_size ∧ Q r0 r_shares r_size
def wp_X3_byCutting_68 (Q : Int → (Int → Int) → Int → Prop) (r_shares : Int → Int) (r_size : Int) : Prop := Q 1 r_shares r_size
set_option maxHeartbeats 4000000 in
set_option maxRecDepth 100000 in
theorem s_X3_byCutting_68 {X : Cx} (g : Gd X cX3_byCutting RX3 (some .boolean) 9) (hR : X.R = rmL 3 0 0) (hX3 : Nat) (aX3_shares : Nat) (Q : Int → (Int → Int) → Int → Prop) (hF : FQ X 0 0 (po_X3_byCutting X.cI X.cJ hX3 aX3_shares Q)) : ∀ (r_shares : Int → Int) (r_size : Int), rr64 r_shares → r32 r_size → wp_X3_byCutting_68 Q r_shares r_size → Wat X 0 0 68 [] [] [(hX3, .inr (3, [.ref aX3_shares, .int (i32 r_size)])), (aX3_shares, aL X.cJ 16 r_shares)] := by
  intro r_shares r_size r_r_shares r_r_size h
  rw [wp_X3_byCutting_68] at h
  refine q_iconst g (1) dX3_byCutting_68 ?_
  exact q_zret g hF (by decide) ⟨1, r_shares, r_size, rfl, rfl, (r32_lit _ (by decide)), r_r_shares, r_r_size, h⟩ dX3_byCutting_69
def wp_X3_byCutting_114 (Q : Int → (Int → Int) → Int → Prop) (r_shares : Int → Int) (r_size : Int) : Prop := Q 0 r_shares r_size
set_option maxHeartbeats 4000000 in
set_option maxRecDepth 100000 in
theorem s_X3_byCutting_114 {X : Cx} (g : Gd X cX3_byCutting RX3 (some .boolean) 9) (hR : X.R = rmL 3 0 0) (hX3 : Nat) (aX3_shares : Nat) (Q : Int → (Int → Int) → Int → Prop) (hF : FQ X 0 0 (po_X3_byCutting X.cI X.cJ hX3 aX3_shares Q)) : ∀ (r_shares : Int → Int) (r_size : Int), rr64 r_shares → r32 r_size → wp_X3_byCutting_114 Q r_shares r_size → Wat X 0 0 114 [] [] [(hX3, .inr (3, [.ref aX3_shares, .int (i32 r_size)])), (aX3_shares, aL X.cJ 16 r_shares)] := by
  intro r_shares r_size r_r_shares r_r_size h
  rw [wp_X3_byCutting_114] at h
  refine q_iconst g (0) dX3_byCutting_114 ?_
  exact q_zret g hF (by decide) ⟨0, r_shares, r_size, rfl, rfl, (r32_lit _ (by decide)), r_r_shares, r_r_size, h⟩ dX3_byCutting_115
def wp_X3_byCutting_40 (Q : Int → (Int → Int) → Int → Prop) : Nat → (Int → Int) → Int → Int → Prop
  | 0, _, _, _ => False
  | n + 1, r_shares, r_size, l5 => ((16 < l5 → Q 0 r_shares r_size) ∧
  (¬ (16 < l5) → wp_X3_leastTwin (fun (x48 : Int) (r_shares_48 : Int → Int) => ((x48 < 0 → wp_X3_byCutting_68 Q r_shares_48 r_size) ∧
  (¬ (x48 < 0) → ((x48 < 16 → (0 ≤ x48 ∧ x48 < 16 ∧ ∀ x77 : Int, x77 = (r_shares_48 x48) → ((x77 < 1 → wp_X3_byCutting_114 Q r_shares_48 r_size) ∧
  (¬ (x77 < 1) → (r64 (x77 + 1) ∧ 0 < x77 ∧ (((Int.tdiv 1000000000000 x77) < (x77 + 1) → wp_X3_byCutting_114 Q r_shares_48 r_size) ∧
  (¬ ((Int.tdiv 1000000000000 x77) < (x77 + 1)) → (r64 (x77 + 1) ∧ r64 (x77 * (x77 + 1)) ∧ wp_X3_add (fun (x108 : Int) (r_shares_108 : Int → Int) (r_size_108 : Int) => ((¬ x108 = 0 → (r64 (x77 + 1) ∧ ∀ x126 : Int, x126 = (x77 + 1) → 0 ≤ x48 ∧ x48 < 16 ∧ r32 (l5 + 1) ∧ wp_X3_byCutting_40 Q n (ups r_shares_108 x48 x126) r_size_108 (l5 + 1))) ∧
  (x108 = 0 → wp_X3_byCutting_114 Q r_shares_108 r_size_108))) r_shares_48 r_size (x77 * (x77 + 1)))))))))) ∧
  (¬ (x48 < 16) → wp_X3_byCutting_68 Q r_shares_48 r_size))))) r_shares r_size))
set_option maxHeartbeats 4000000 in
set_option maxRecDepth 100000 in
theorem s_X3_byCutting_40 {X : Cx} (g : Gd X cX3_byCutting RX3 (some .boolean) 9) (hR : X.R = rmL 3 0 0) (hX3 : Nat) (aX3_shares : Nat) (Q : Int → (Int → Int) → Int → Prop) (hF : FQ X 0 0 (po_X3_byCutting X.cI X.cJ hX3 aX3_shares Q)) : ∀ (n : Nat) (r_shares : Int → Int) (r_size : Int) (l5 : Int), rr64 r_shares → r32 r_size → r32 l5 → wp_X3_byCutting_40 Q n r_shares r_size l5 → Wat X 0 0 40 [(0, .ref hX3), (5, .int (i32 l5))] [] [(hX3, .inr (3, [.ref aX3_shares, .int (i32 r_size)])), (aX3_shares, aL X.cJ 16 r_shares)] := by
  intro n
  induction n with
  | zero => intro r_shares r_size l5 r_r_shares r_r_size r_l5 h; exact False.elim h
  | succ n ih =>
    intro r_shares r_size l5 r_r_shares r_r_size r_l5 h
    rw [wp_X3_byCutting_40] at h
    refine q_iload g 5 1 rfl dX3_byCutting_40 ?_
    refine q_bipush g (16) (by decide) (by decide) dX3_byCutting_42 ?_
    refine q_icmp_gt g (89) 133 r_l5 (r32_lit _ (by decide)) (by decide) dX3_byCutting_44 (fun b44 => ?_) (fun b44 => ?_)
    · replace h := h.1 b44
      refine q_iconst g (0) dX3_byCutting_133 ?_
      exact q_zret g hF (by decide) ⟨0, r_shares, r_size, rfl, rfl, (r32_lit _ (by decide)), r_r_shares, r_r_size, h⟩ dX3_byCutting_134
    replace h := h.2 b44
    refine q_aload_n g 0 0 rfl dX3_byCutting_47 ?_
    refine q_callV (lev := 2) (mc := 0) (ms := 0) g 64 (c_X3_leastTwin X.l X.D X.cI X.cJ X.zt hX3 aX3_shares r_size r_shares _ r_r_shares r_r_size h) (wr := []) [0, 1] [] rfl rfl rfl (by decide) (by decide) (by decide) (ci := 3) rfl rfl rfl wM_X3_64 wI_X3_leastTwin wS_X3_leastTwin wZ_X3 wC_X3_leastTwin 0 rfl (by decide +kernel) (by rw [hR]; exact ⟨by show 2 + 1 ≤ 3; omega, by show 8 + (2 + 11) + 100 * 2 ≤ 100 * 3; omega⟩) (by rw [hR]; exact ⟨Nat.le_refl _, Nat.le_refl _⟩) (Nat.le_of_ble_eq_true rfl) rfl dX3_byCutting_48 (fun rv w1 hq => ?_)
    obtain ⟨x48, r_shares_48, rfl, rfl, rx48, rr_shares_48, h⟩ := hq
    show Wat X 0 0 51 [(0, .ref hX3), (5, .int (i32 l5))] [.int (i32 x48)] [(hX3, .inr (3, [.ref aX3_shares, .int (i32 r_size)])), (aX3_shares, aL X.cJ 16 r_shares_48)]
    refine q_istore (lv' := [(6, .int (i32 x48)), (0, .ref hX3), (5, .int (i32 l5))]) g 6   (by decide) rfl dX3_byCutting_51 ?_
    refine q_iload g 6 0 rfl dX3_byCutting_53 ?_
    refine q_if_lt g (13) 68 rx48 (by decide) dX3_byCutting_55 (fun b55 => ?_) (fun b55 => ?_)
    · replace h := h.1 b55
      refine q_lv (lv' := []) [] rfl ?_
      exact s_X3_byCutting_68 g hR hX3 aX3_shares Q hF r_shares_48 r_size rr_shares_48 r_r_size h
    replace h := h.2 b55
    refine q_iload g 6 0 rfl dX3_byCutting_58 ?_
    refine q_aload_n g 0 1 rfl dX3_byCutting_60 ?_
    refine q_get (C := RX3) (T := TX3) (N := 2) g 11 inX3 0 0 rfl rfl (by decide) wF_X3_11 rfl dX3_byCutting_61 ?_
    refine q_alenL g 1 16 rfl rfl dX3_byCutting_64 ?_
    refine q_icmp_lt g (5) 70 rx48 (r32_lit _ (by decide)) (by decide) dX3_byCutting_65 (fun b65 => ?_) (fun b65 => ?_)
    · replace h := h.1 b65
      refine q_aload_n g 0 1 rfl dX3_byCutting_70 ?_
      refine q_get (C := RX3) (T := TX3) (N := 2) g 11 inX3 0 0 rfl rfl (by decide) wF_X3_11 rfl dX3_byCutting_71 ?_
      refine q_iload g 6 0 rfl dX3_byCutting_74 ?_
      obtain ⟨c76, h⟩ := h
      obtain ⟨e76, h⟩ := h
      refine q_lald g 1 rfl c76 e76 (by decide) dX3_byCutting_76 ?_
      refine q_topl (rr_shares_48 _) (fun x77 ex77 rx77 => ?_)
      replace h := h x77 ex77
      refine q_lstore (lv' := [(7, .long (i64 x77)), (6, .int (i32 x48)), (0, .ref hX3), (5, .int (i32 l5))]) g 7   (by decide) rfl dX3_byCutting_77 ?_
      refine q_lload g 7 0 rfl dX3_byCutting_79 ?_
      refine q_lconst g 1 1 rfl dX3_byCutting_81 ?_
      refine q_lcmp_lt g (31) 114 rx77 (r64_lit _ (by decide)) (by decide) dX3_byCutting_82 dX3_byCutting_83 (fun b82 => ?_) (fun b82 => ?_)
      · replace h := h.1 b82
        refine q_lv (lv' := []) [] rfl ?_
        exact s_X3_byCutting_114 g hR hX3 aX3_shares Q hF r_shares_48 r_size rr_shares_48 r_r_size h
      replace h := h.2 b82
      refine q_lload g 7 0 rfl dX3_byCutting_86 ?_
      refine q_lconst g 1 1 rfl dX3_byCutting_88 ?_
      obtain ⟨c89, h⟩ := h
      refine q_ladd g dX3_byCutting_89 ?_
      refine q_ldc2 (w := 1000000000000) g 40 (1000000000000) (by decide +kernel) wL_X3_40 dX3_byCutting_90 ?_
      refine q_lload g 7 0 rfl dX3_byCutting_93 ?_
      obtain ⟨c95, h⟩ := h
      refine q_ldiv g (r64_lit _ (by decide)) rx77 (ne_of_pos c95) dX3_byCutting_95 ?_
      refine q_lcmp_gt g (17) 114 c89 (r64_tdiv (r64_lit _ (by decide)) c95) (by decide) dX3_byCutting_96 dX3_byCutting_97 (fun b96 => ?_) (fun b96 => ?_)
      · replace h := h.1 b96
        refine q_lv (lv' := []) [] rfl ?_
        exact s_X3_byCutting_114 g hR hX3 aX3_shares Q hF r_shares_48 r_size rr_shares_48 r_r_size h
      replace h := h.2 b96
      refine q_aload_n g 0 2 rfl dX3_byCutting_100 ?_
      refine q_lload g 7 0 rfl dX3_byCutting_101 ?_
      refine q_lload g 7 0 rfl dX3_byCutting_103 ?_
      refine q_lconst g 1 1 rfl dX3_byCutting_105 ?_
      obtain ⟨c106, h⟩ := h
      refine q_ladd g dX3_byCutting_106 ?_
      obtain ⟨c107, h⟩ := h
      refine q_lmul g dX3_byCutting_107 ?_
      refine q_callV (lev := 1) (mc := 0) (ms := 0) g 53 (c_X3_add X.l X.D X.cI X.cJ X.zt hX3 aX3_shares r_size r_shares_48 (x77 * (x77 + 1)) _ rr_shares_48 r_r_size c107 h) (wr := []) [0, 1] [] rfl rfl rfl (by decide) (by decide) (by decide) (ci := 3) rfl rfl rfl wM_X3_53 wI_X3_add wS_X3_add wZ_X3 wC_X3_add 1 rfl (by decide +kernel) (by rw [hR]; exact ⟨by show 1 + 1 ≤ 3; omega, by show 8 + (3 + 11) + 100 * 1 ≤ 100 * 3; omega⟩) (by rw [hR]; exact ⟨Nat.le_refl _, Nat.le_refl _⟩) (Nat.le_of_ble_eq_true rfl) rfl dX3_byCutting_108 (fun rv w1 hq => ?_)
      obtain ⟨x108, r_shares_108, r_size_108, rfl, rfl, rx108, rr_shares_108, rr_size_108, h⟩ := hq
      show Wat X 0 0 111 [(7, .long (i64 x77)), (6, .int (i32 x48)), (0, .ref hX3), (5, .int (i32 l5))] [.int (i32 x108)] [(hX3, .inr (3, [.ref aX3_shares, .int (i32 r_size_108)])), (aX3_shares, aL X.cJ 16 r_shares_108)]
      refine q_if_ne g (5) 116 rx108 (by decide) dX3_byCutting_111 (fun b111 => ?_) (fun b111 => ?_)
      · replace h := h.1 b111
        refine q_aload_n g 0 2 rfl dX3_byCutting_116 ?_
        refine q_get (C := RX3) (T := TX3) (N := 2) g 11 inX3 0 0 rfl rfl (by decide) wF_X3_11 rfl dX3_byCutting_117 ?_
        refine q_iload g 6 1 rfl dX3_byCutting_120 ?_
        refine q_lload g 7 0 rfl dX3_byCutting_122 ?_
        refine q_lconst g 1 1 rfl dX3_byCutting_124 ?_
        obtain ⟨c125, h⟩ := h
        refine q_ladd g dX3_byCutting_125 ?_
        refine q_topl c125 (fun x126 ex126 rx126 => ?_)
        replace h := h x126 ex126
        obtain ⟨c126, h⟩ := h
        obtain ⟨e126, h⟩ := h
        refine q_last (ws' := [(hX3, .inr (3, [.ref aX3_shares, .int (i32 r_size_108)])), (aX3_shares, aL X.cJ 16 (ups r_shares_108 x48 x126))]) g 1 rfl c126 e126 (by decide) rfl dX3_byCutting_126 ?_
        obtain ⟨c127, h⟩ := h
        refine q_iinc (lv' := [(5, .int (i32 (l5 + 1))), (7, .long (i64 x77)), (6, .int (i32 x48)), (0, .ref hX3)]) g 5 3 1 (by decide) rfl rfl dX3_byCutting_127 ?_
        refine q_goto g (-90) 40 (by decide) dX3_byCutting_130 ?_
        refine q_lv (lv' := [(0, .ref hX3), (5, .int (i32 (l5 + 1)))]) [3, 0] rfl ?_
        exact ih (ups r_shares_108 x48 x126) r_size_108 (l5 + 1) (rr64_u rr_shares_108 rx126) rr_size_108 c127 h
      replace h := h.2 b111
      refine q_lv (lv' := []) [] rfl ?_
      exact s_X3_byCutting_114 g hR hX3 aX3_shares Q hF r_shares_108 r_size_108 rr_shares_108 rr_size_108 h
    replace h := h.2 b65
    refine q_lv (lv' := []) [] rfl ?_
    exact s_X3_byCutting_68 g hR hX3 aX3_shares Q hF r_shares_48 r_size rr_shares_48 r_r_size h
def wp_X3_byCutting_13 (Q : Int → (Int → Int) → Int → Prop) : Nat → (Int → Int) → Int → Int → Int → Int → Prop
  | 0, _, _, _, _, _ => False
  | n + 1, r_shares, r_size, l1, l3, l5 => ((l1 ≤ l5 → (∃ n0 : Nat, wp_X3_byCutting_40 Q n0 r_shares r_size 0)) ∧
  (¬ (l1 ≤ l5) → wp_X3_add (fun (x23 : Int) (r_shares_23 : Int → Int) (r_size_23 : Int) => ((¬ x23 = 0 → (r32 (l5 + 1) ∧ wp_X3_byCutting_13 Q n r_shares_23 r_size_23 l1 l3 (l5 + 1))) ∧
  (x23 = 0 → Q 0 r_shares_23 r_size_23))) r_shares r_size l3))
set_option maxHeartbeats 4000000 in
set_option maxRecDepth 100000 in
theorem s_X3_byCutting_13 {X : Cx} (g : Gd X cX3_byCutting RX3 (some .boolean) 9) (hR : X.R = rmL 3 0 0) (hX3 : Nat) (aX3_shares : Nat) (Q : Int → (Int → Int) → Int → Prop) (hF : FQ X 0 0 (po_X3_byCutting X.cI X.cJ hX3 aX3_shares Q)) : ∀ (n : Nat) (r_shares : Int → Int) (r_size : Int) (l1 : Int) (l3 : Int) (l5 : Int), rr64 r_shares → r32 r_size → r64 l1 → r64 l3 → r32 l5 → wp_X3_byCutting_13 Q n r_shares r_size l1 l3 l5 → Wat X 0 0 13 [(0, .ref hX3), (1, .long (i64 l1)), (3, .long (i64 l3)), (5, .int (i32 l5))] [] [(hX3, .inr (3, [.ref aX3_shares, .int (i32 r_size)])), (aX3_shares, aL X.cJ 16 r_shares)] := by
  intro n
  induction n with
  | zero => intro r_shares r_size l1 l3 l5 r_r_shares r_r_size r_l1 r_l3 r_l5 h; exact False.elim h
  | succ n ih =>
    intro r_shares r_size l1 l3 l5 r_r_shares r_r_size r_l1 r_l3 r_l5 h
    rw [wp_X3_byCutting_13] at h
    refine q_iload g 5 3 rfl dX3_byCutting_13 ?_
    refine q_i2l g r_l5 dX3_byCutting_15 ?_
    refine q_lload_n g 1 1 rfl dX3_byCutting_16 ?_
    refine q_lcmp_ge g (19) 37 (r32_64 r_l5) r_l1 (by decide) dX3_byCutting_17 dX3_byCutting_18 (fun b17 => ?_) (fun b17 => ?_)
    · replace h := h.1 b17
      refine q_iconst g (0) dX3_byCutting_37 ?_
      refine q_istore (lv' := [(5, .int (i32 0)), (0, .ref hX3), (1, .long (i64 l1)), (3, .long (i64 l3))]) g 5   (by decide) rfl dX3_byCutting_38 ?_
      refine q_lv (lv' := [(0, .ref hX3), (5, .int (i32 0))]) [1, 0] rfl ?_
      obtain ⟨n0, h⟩ := h
      exact s_X3_byCutting_40 g hR hX3 aX3_shares Q hF n0 r_shares r_size 0 r_r_shares r_r_size (r32_lit _ (by decide)) h
    replace h := h.2 b17
    refine q_aload_n g 0 0 rfl dX3_byCutting_21 ?_
    refine q_lload_n g 3 2 rfl dX3_byCutting_22 ?_
    refine q_callV (lev := 1) (mc := 0) (ms := 0) g 53 (c_X3_add X.l X.D X.cI X.cJ X.zt hX3 aX3_shares r_size r_shares l3 _ r_r_shares r_r_size r_l3 h) (wr := []) [0, 1] [] rfl rfl rfl (by decide) (by decide) (by decide) (ci := 3) rfl rfl rfl wM_X3_53 wI_X3_add wS_X3_add wZ_X3 wC_X3_add 1 rfl (by decide +kernel) (by rw [hR]; exact ⟨by show 1 + 1 ≤ 3; omega, by show 8 + (3 + 11) + 100 * 1 ≤ 100 * 3; omega⟩) (by rw [hR]; exact ⟨Nat.le_refl _, Nat.le_refl _⟩) (Nat.le_of_ble_eq_true rfl) rfl dX3_byCutting_23 (fun rv w1 hq => ?_)
    obtain ⟨x23, r_shares_23, r_size_23, rfl, rfl, rx23, rr_shares_23, rr_size_23, h⟩ := hq
    show Wat X 0 0 26 [(0, .ref hX3), (1, .long (i64 l1)), (3, .long (i64 l3)), (5, .int (i32 l5))] [.int (i32 x23)] [(hX3, .inr (3, [.ref aX3_shares, .int (i32 r_size_23)])), (aX3_shares, aL X.cJ 16 r_shares_23)]
    refine q_if_ne g (5) 31 rx23 (by decide) dX3_byCutting_26 (fun b26 => ?_) (fun b26 => ?_)
    · replace h := h.1 b26
      obtain ⟨c31, h⟩ := h
      refine q_iinc (lv' := [(5, .int (i32 (l5 + 1))), (0, .ref hX3), (1, .long (i64 l1)), (3, .long (i64 l3))]) g 5 3 1 (by decide) rfl rfl dX3_byCutting_31 ?_
      refine q_goto g (-21) 13 (by decide) dX3_byCutting_34 ?_
      refine q_lv (lv' := [(0, .ref hX3), (1, .long (i64 l1)), (3, .long (i64 l3)), (5, .int (i32 (l5 + 1)))]) [1, 2, 3, 0] rfl ?_
      exact ih r_shares_23 r_size_23 l1 l3 (l5 + 1) rr_shares_23 rr_size_23 r_l1 r_l3 c31 h
    replace h := h.2 b26
    refine q_iconst g (0) dX3_byCutting_29 ?_
    exact q_zret g hF (by decide) ⟨0, r_shares_23, r_size_23, rfl, rfl, (r32_lit _ (by decide)), rr_shares_23, rr_size_23, h⟩ dX3_byCutting_30
def wp_X3_byCutting (Q : Int → (Int → Int) → Int → Prop) (r_shares : Int → Int) (r_size : Int) (l1 : Int) (l3 : Int) : Prop := ((l1 ≤ 16 → (∃ n0 : Nat, wp_X3_byCutting_13 Q n0 r_shares r_size l1 l3 0)) ∧
  (¬ (l1 ≤ 16) → Q 0 r_shares r_size))
set_option maxHeartbeats 4000000 in
set_option maxRecDepth 100000 in
theorem c_X3_byCutting (l : Launch) (D : va_G) (cI cJ : ClassId) (zt : Nat) (hX3 : Nat) (aX3_shares : Nat) (r_size : Int) (r_shares : Int → Int) (l1 : Int) (l3 : Int) (Q : Int → (Int → Int) → Int → Prop) (r_r_shares : rr64 r_shares) (r_r_size : r32 r_size) (r_l1 : r64 l1) (r_l3 : r64 l3) (h : wp_X3_byCutting Q r_shares r_size l1 l3) : Ct l D cI cJ zt yX3_byCutting cX3_byCutting 9 (some .boolean) 3 0 0 [.ref hX3, .long (i64 l1), .long (i64 l3)] [(hX3, .inr (3, [.ref aX3_shares, .int (i32 r_size)])), (aX3_shares, aL cJ 16 r_shares)] (po_X3_byCutting cI cJ hX3 aX3_shares Q) := by
  refine ct_of (by decide +kernel) (Nat.le_of_ble_eq_true rfl) (fun X hl hDD hcI hcJ hzt hR hF hnm g => ?_)
  subst hl; subst hDD; subst hcI; subst hcJ; subst hzt
  show Wat X 0 0 0 [(0, .ref hX3), (1, .long (i64 l1)), (3, .long (i64 l3))] [] [(hX3, .inr (3, [.ref aX3_shares, .int (i32 r_size)])), (aX3_shares, aL X.cJ 16 r_shares)]
  replace g : Gd X cX3_byCutting RX3 (some .boolean) 9 := g
  rw [wp_X3_byCutting] at h
  refine q_lload_n g 1 1 rfl dX3_byCutting_0 ?_
  refine q_ldc2 (w := 16) g 62 (16) (by decide +kernel) wL_X3_62 dX3_byCutting_1 ?_
  refine q_lcmp_le g (5) 10 r_l1 (r64_lit _ (by decide)) (by decide) dX3_byCutting_4 dX3_byCutting_5 (fun b4 => ?_) (fun b4 => ?_)
  · replace h := h.1 b4
    refine q_iconst g (0) dX3_byCutting_10 ?_
    refine q_istore (lv' := [(5, .int (i32 0)), (0, .ref hX3), (1, .long (i64 l1)), (3, .long (i64 l3))]) g 5   (by decide) rfl dX3_byCutting_11 ?_
    refine q_lv (lv' := [(0, .ref hX3), (1, .long (i64 l1)), (3, .long (i64 l3)), (5, .int (i32 0))]) [1, 2, 3, 0] rfl ?_
    obtain ⟨n0, h⟩ := h
    exact s_X3_byCutting_13 g hR hX3 aX3_shares Q hF n0 r_shares r_size l1 l3 0 r_r_shares r_r_size r_l1 r_l3 (r32_lit _ (by decide)) h
  replace h := h.2 b4
  refine q_iconst g (0) dX3_byCutting_8 ?_
  exact q_zret g hF (by decide) ⟨0, r_shares, r_size, rfl, rfl, (r32_lit _ (by decide)), r_r_shares, r_r_size, h⟩ dX3_byCutting_9
theorem dX3_byFactors_0 : decode cX3_byFactors 0 = .ok (.lload_n 1, 1) := by decide +kernel
theorem dX3_byFactors_1 : decode cX3_byFactors 1 = .ok (.lstore 5, 2) := by decide +kernel
theorem dX3_byFactors_3 : decode cX3_byFactors 3 = .ok (.lconst 1, 1) := by decide +kernel
theorem dX3_byFactors_4 : decode cX3_byFactors 4 = .ok (.lstore 7, 2) := by decide +kernel
theorem dX3_byFactors_6 : decode cX3_byFactors 6 = .ok (.iconst 0, 1) := by decide +kernel
theorem dX3_byFactors_7 : decode cX3_byFactors 7 = .ok (.istore 9, 2) := by decide +kernel
theorem dX3_byFactors_9 : decode cX3_byFactors 9 = .ok (.iload 9, 2) := by decide +kernel
theorem dX3_byFactors_11 : decode cX3_byFactors 11 = .ok (.bipush 16, 2) := by decide +kernel
theorem dX3_byFactors_13 : decode cX3_byFactors 13 = .ok (.if_icmp .ge 72, 3) := by decide +kernel
theorem dX3_byFactors_16 : decode cX3_byFactors 16 = .ok (.lload 5, 2) := by decide +kernel
theorem dX3_byFactors_18 : decode cX3_byFactors 18 = .ok (.lconst 0, 1) := by decide +kernel
theorem dX3_byFactors_19 : decode cX3_byFactors 19 = .ok (.lcmp, 1) := by decide +kernel
theorem dX3_byFactors_20 : decode cX3_byFactors 20 = .ok (.ifCond .le 65, 3) := by decide +kernel
theorem dX3_byFactors_23 : decode cX3_byFactors 23 = .ok (.lload_n 3, 1) := by decide +kernel
theorem dX3_byFactors_24 : decode cX3_byFactors 24 = .ok (.lload 5, 2) := by decide +kernel
theorem dX3_byFactors_26 : decode cX3_byFactors 26 = .ok (.invokestatic 42, 3) := by decide +kernel
theorem dX3_byFactors_29 : decode cX3_byFactors 29 = .ok (.lstore 10, 2) := by decide +kernel
theorem dX3_byFactors_31 : decode cX3_byFactors 31 = .ok (.lload 7, 2) := by decide +kernel
theorem dX3_byFactors_33 : decode cX3_byFactors 33 = .ok (.lconst 1, 1) := by decide +kernel
theorem dX3_byFactors_34 : decode cX3_byFactors 34 = .ok (.lcmp, 1) := by decide +kernel
theorem dX3_byFactors_35 : decode cX3_byFactors 35 = .ok (.ifCond .lt 15, 3) := by decide +kernel
theorem dX3_byFactors_38 : decode cX3_byFactors 38 = .ok (.lload 10, 2) := by decide +kernel
theorem dX3_byFactors_40 : decode cX3_byFactors 40 = .ok (.ldc2_w 40, 3) := by decide +kernel
theorem dX3_byFactors_43 : decode cX3_byFactors 43 = .ok (.lload 7, 2) := by decide +kernel
theorem dX3_byFactors_45 : decode cX3_byFactors 45 = .ok (.ldiv, 1) := by decide +kernel
theorem dX3_byFactors_46 : decode cX3_byFactors 46 = .ok (.lcmp, 1) := by decide +kernel
theorem dX3_byFactors_47 : decode cX3_byFactors 47 = .ok (.ifCond .le 5, 3) := by decide +kernel
theorem dX3_byFactors_50 : decode cX3_byFactors 50 = .ok (.iconst 0, 1) := by decide +kernel
theorem dX3_byFactors_51 : decode cX3_byFactors 51 = .ok (.ireturn, 1) := by decide +kernel
theorem dX3_byFactors_52 : decode cX3_byFactors 52 = .ok (.lload 7, 2) := by decide +kernel
theorem dX3_byFactors_54 : decode cX3_byFactors 54 = .ok (.lload 10, 2) := by decide +kernel
theorem dX3_byFactors_56 : decode cX3_byFactors 56 = .ok (.lmul, 1) := by decide +kernel
theorem dX3_byFactors_57 : decode cX3_byFactors 57 = .ok (.lstore 7, 2) := by decide +kernel
theorem dX3_byFactors_59 : decode cX3_byFactors 59 = .ok (.aload_n 0, 1) := by decide +kernel
theorem dX3_byFactors_60 : decode cX3_byFactors 60 = .ok (.lload 7, 2) := by decide +kernel
theorem dX3_byFactors_62 : decode cX3_byFactors 62 = .ok (.invokevirtual 53, 3) := by decide +kernel
theorem dX3_byFactors_65 : decode cX3_byFactors 65 = .ok (.ifCond .ne 5, 3) := by decide +kernel
theorem dX3_byFactors_68 : decode cX3_byFactors 68 = .ok (.iconst 0, 1) := by decide +kernel
theorem dX3_byFactors_69 : decode cX3_byFactors 69 = .ok (.ireturn, 1) := by decide +kernel
theorem dX3_byFactors_70 : decode cX3_byFactors 70 = .ok (.lload 10, 2) := by decide +kernel
theorem dX3_byFactors_72 : decode cX3_byFactors 72 = .ok (.lload 5, 2) := by decide +kernel
theorem dX3_byFactors_74 : decode cX3_byFactors 74 = .ok (.lmul, 1) := by decide +kernel
theorem dX3_byFactors_75 : decode cX3_byFactors 75 = .ok (.lload_n 3, 1) := by decide +kernel
theorem dX3_byFactors_76 : decode cX3_byFactors 76 = .ok (.lsub, 1) := by decide +kernel
theorem dX3_byFactors_77 : decode cX3_byFactors 77 = .ok (.lstore 5, 2) := by decide +kernel
theorem dX3_byFactors_79 : decode cX3_byFactors 79 = .ok (.iinc 9 1, 3) := by decide +kernel
theorem dX3_byFactors_82 : decode cX3_byFactors 82 = .ok (.goto (-73), 3) := by decide +kernel
theorem dX3_byFactors_85 : decode cX3_byFactors 85 = .ok (.lload 5, 2) := by decide +kernel
theorem dX3_byFactors_87 : decode cX3_byFactors 87 = .ok (.lconst 0, 1) := by decide +kernel
theorem dX3_byFactors_88 : decode cX3_byFactors 88 = .ok (.lcmp, 1) := by decide +kernel
theorem dX3_byFactors_89 : decode cX3_byFactors 89 = .ok (.ifCond .ne 7, 3) := by decide +kernel
theorem dX3_byFactors_92 : decode cX3_byFactors 92 = .ok (.iconst 1, 1) := by decide +kernel
theorem dX3_byFactors_93 : decode cX3_byFactors 93 = .ok (.goto 4, 3) := by decide +kernel
theorem dX3_byFactors_96 : decode cX3_byFactors 96 = .ok (.iconst 0, 1) := by decide +kernel
theorem dX3_byFactors_97 : decode cX3_byFactors 97 = .ok (.ireturn, 1) := by decide +kernel
abbrev po_X3_byFactors (cI cJ : ClassId) (hX3 : Nat) (aX3_shares : Nat) (Q : Int → (Int → Int) → Int → Prop) : Option Value → va_W → Prop := fun rv w1 => ∃ (r0 : Int) (r_shares : Int → Int) (r_size : Int), rv = some (.int (i32 r0)) ∧ w1 = [(hX3, .inr (3, [.ref aX3_shares, .int (i32 r_size)])), (aX3_shares, aL cJ 16 r_shares)] ∧ r32 r0 ∧ rr64 r_shares ∧ r32 r_size ∧ Q r0 r_shares r_size
def wp_X3_byFactors_50 (Q : Int → (Int → Int) → Int → Prop) (r_shares : Int → Int) (r_size : Int) : Prop := Q 0 r_shares r_size
set_option maxHeartbeats 4000000 in
set_option maxRecDepth 100000 in
theorem s_X3_byFactors_50 {X : Cx} (g : Gd X cX3_byFactors RX3 (some .boolean) 12) (hR : X.R = rmL 2 0 0) (hX3 : Nat) (aX3_shares : Nat) (Q : Int → (Int → Int) → Int → Prop) (hF : FQ X 0 0 (po_X3_byFactors X.cI X.cJ hX3 aX3_shares Q)) : ∀ (r_shares : Int → Int) (r_size : Int), rr64 r_shares → r32 r_size → wp_X3_byFactors_50 Q r_shares r_size → Wat X 0 0 50 [] [] [(hX3, .inr (3, [.ref aX3_shares, .int (i32 r_size)])), (aX3_shares, aL X.cJ 16 r_shares)] := by
  intro r_shares r_size r_r_shares r_r_size h
  rw [wp_X3_byFactors_50] at h
  refine q_iconst g (0) dX3_byFactors_50 ?_
  exact q_zret g hF (by decide) ⟨0, r_shares, r_size, rfl, rfl, (r32_lit _ (by decide)), r_r_shares, r_r_size, h⟩ dX3_byFactors_51
def wp_X3_byFactors_97 (Q : Int → (Int → Int) → Int → Prop) (r_shares : Int → Int) (r_size : Int) (k0 : Int) : Prop := ((k0 = 0 ∨ k0 = 1) ∧ Q k0 r_shares r_size)
set_option maxHeartbeats 4000000 in
set_option maxRecDepth 100000 in
theorem s_X3_byFactors_97 {X : Cx} (g : Gd X cX3_byFactors RX3 (some .boolean) 12) (hR : X.R = rmL 2 0 0) (hX3 : Nat) (aX3_shares : Nat) (Q : Int → (Int → Int) → Int → Prop) (hF : FQ X 0 0 (po_X3_byFactors X.cI X.cJ hX3 aX3_shares Q)) : ∀ (r_shares : Int → Int) (r_size : Int) (k0 : Int), rr64 r_shares → r32 r_size → r32 k0 → wp_X3_byFactors_97 Q r_shares r_size k0 → Wat X 0 0 97 [] [.int (i32 k0)] [(hX3, .inr (3, [.ref aX3_shares, .int (i32 r_size)])), (aX3_shares, aL X.cJ 16 r_shares)] := by
  intro r_shares r_size k0 r_r_shares r_r_size r_k0 h
  rw [wp_X3_byFactors_97] at h
  obtain ⟨z97, h⟩ := h
  exact q_zret g hF z97 ⟨k0, r_shares, r_size, rfl, rfl, r_k0, r_r_shares, r_r_size, h⟩ dX3_byFactors_97
def wp_X3_byFactors_85 (Q : Int → (Int → Int) → Int → Prop) (r_shares : Int → Int) (r_size : Int) (l5 : Int) : Prop := ((¬ l5 = 0 → wp_X3_byFactors_97 Q r_shares r_size 0) ∧
  (l5 = 0 → wp_X3_byFactors_97 Q r_shares r_size 1))
set_option maxHeartbeats 4000000 in
set_option maxRecDepth 100000 in
theorem s_X3_byFactors_85 {X : Cx} (g : Gd X cX3_byFactors RX3 (some .boolean) 12) (hR : X.R = rmL 2 0 0) (hX3 : Nat) (aX3_shares : Nat) (Q : Int → (Int → Int) → Int → Prop) (hF : FQ X 0 0 (po_X3_byFactors X.cI X.cJ hX3 aX3_shares Q)) : ∀ (r_shares : Int → Int) (r_size : Int) (l5 : Int), rr64 r_shares → r32 r_size → r64 l5 → wp_X3_byFactors_85 Q r_shares r_size l5 → Wat X 0 0 85 [(5, .long (i64 l5))] [] [(hX3, .inr (3, [.ref aX3_shares, .int (i32 r_size)])), (aX3_shares, aL X.cJ 16 r_shares)] := by
  intro r_shares r_size l5 r_r_shares r_r_size r_l5 h
  rw [wp_X3_byFactors_85] at h
  refine q_lload g 5 0 rfl dX3_byFactors_85 ?_
  refine q_lconst g 0 0 rfl dX3_byFactors_87 ?_
  refine q_lcmp_ne g (7) 96 r_l5 (r64_lit _ (by decide)) (by decide) dX3_byFactors_88 dX3_byFactors_89 (fun b88 => ?_) (fun b88 => ?_)
  · replace h := h.1 b88
    refine q_iconst g (0) dX3_byFactors_96 ?_
    refine q_lv (lv' := []) [] rfl ?_
    exact s_X3_byFactors_97 g hR hX3 aX3_shares Q hF r_shares r_size 0 r_r_shares r_r_size (r32_lit _ (by decide)) h
  replace h := h.2 b88
  refine q_iconst g (1) dX3_byFactors_92 ?_
  refine q_goto g (4) 97 (by decide) dX3_byFactors_93 ?_
  refine q_lv (lv' := []) [] rfl ?_
  exact s_X3_byFactors_97 g hR hX3 aX3_shares Q hF r_shares r_size 1 r_r_shares r_r_size (r32_lit _ (by decide)) h
def wp_X3_byFactors_9 (Q : Int → (Int → Int) → Int → Prop) : Nat → (Int → Int) → Int → Int → Int → Int → Int → Prop
  | 0, _, _, _, _, _, _ => False
  | n + 1, r_shares, r_size, l3, l5, l7, l9 => ((16 ≤ l9 → wp_X3_byFactors_85 Q r_shares r_size l5) ∧
  (¬ (16 ≤ l9) → ((l5 ≤ 0 → wp_X3_byFactors_85 Q r_shares r_size l5) ∧
  (¬ (l5 ≤ 0) → wp_X7_roundedUp (fun (x26 : Int) => ((l7 < 1 → wp_X3_byFactors_50 Q r_shares r_size) ∧
  (¬ (l7 < 1) → (0 < l7 ∧ ((x26 ≤ (Int.tdiv 1000000000000 l7) → (r64 (l7 * x26) ∧ ∀ x57 : Int, x57 = (l7 * x26) → wp_X3_add (fun (x62 : Int) (r_shares_62 : Int → Int) (r_size_62 : Int) => ((¬ x62 = 0 → (r64 (x26 * l5) ∧ r64 ((x26 * l5) - l3) ∧ ∀ x77 : Int, x77 = ((x26 * l5) - l3) → r32 (l9 + 1) ∧ wp_X3_byFactors_9 Q n r_shares_62 r_size_62 l3 x77 x57 (l9 + 1))) ∧
  (x62 = 0 → Q 0 r_shares_62 r_size_62))) r_shares r_size x57)) ∧
  (¬ (x26 ≤ (Int.tdiv 1000000000000 l7)) → wp_X3_byFactors_50 Q r_shares r_size)))))) l3 l5))))
set_option maxHeartbeats 4000000 in
set_option maxRecDepth 100000 in
theorem s_X3_byFactors_9 {X : Cx} (g : Gd X cX3_byFactors RX3 (some .boolean) 12) (hR : X.R = rmL 2 0 0) (hX3 : Nat) (aX3_shares : Nat) (Q : Int → (Int → Int) → Int → Prop) (hF : FQ X 0 0 (po_X3_byFactors X.cI X.cJ hX3 aX3_shares Q)) : ∀ (n : Nat) (r_shares : Int → Int) (r_size : Int) (l3 : Int) (l5 : Int) (l7 : Int) (l9 : Int), rr64 r_shares → r32 r_size → r64 l3 → r64 l5 → r64 l7 → r32 l9 → wp_X3_byFactors_9 Q n r_shares r_size l3 l5 l7 l9 → Wat X 0 0 9 [(0, .ref hX3), (3, .long (i64 l3)), (5, .long (i64 l5)), (7, .long (i64 l7)), (9, .int (i32 l9))] [] [(hX3, .inr (3, [.ref aX3_shares, .int (i32 r_size)])), (aX3_shares, aL X.cJ 16 r_shares)] := by
  intro n
  induction n with
  | zero => intro r_shares r_size l3 l5 l7 l9 r_r_shares r_r_size r_l3 r_l5 r_l7 r_l9 h; exact False.elim h
  | succ n ih =>
    intro r_shares r_size l3 l5 l7 l9 r_r_shares r_r_size r_l3 r_l5 r_l7 r_l9 h
    rw [wp_X3_byFactors_9] at h
    refine q_iload g 9 4 rfl dX3_byFactors_9 ?_
    refine q_bipush g (16) (by decide) (by decide) dX3_byFactors_11 ?_
    refine q_icmp_ge g (72) 85 r_l9 (r32_lit _ (by decide)) (by decide) dX3_byFactors_13 (fun b13 => ?_) (fun b13 => ?_)
    · replace h := h.1 b13
      refine q_lv (lv' := [(5, .long (i64 l5))]) [2] rfl ?_
      exact s_X3_byFactors_85 g hR hX3 aX3_shares Q hF r_shares r_size l5 r_r_shares r_r_size r_l5 h
    replace h := h.2 b13
    refine q_lload g 5 2 rfl dX3_byFactors_16 ?_
    refine q_lconst g 0 0 rfl dX3_byFactors_18 ?_
    refine q_lcmp_le g (65) 85 r_l5 (r64_lit _ (by decide)) (by decide) dX3_byFactors_19 dX3_byFactors_20 (fun b19 => ?_) (fun b19 => ?_)
    · replace h := h.1 b19
      refine q_lv (lv' := [(5, .long (i64 l5))]) [2] rfl ?_
      exact s_X3_byFactors_85 g hR hX3 aX3_shares Q hF r_shares r_size l5 r_r_shares r_r_size r_l5 h
    replace h := h.2 b19
    refine q_lload_n g 3 1 rfl dX3_byFactors_23 ?_
    refine q_lload g 5 2 rfl dX3_byFactors_24 ?_
    refine q_callSN (lev := 1) (mc := 0) (ms := 0) (As := [.long (i64 l3), .long (i64 l5)]) (host := RX7) g 42 (c_X7_roundedUp X.l X.D X.cI X.cJ X.zt l3 l5 _ r_l3 r_l5 h) (wr := [(hX3, .inr (3, [.ref aX3_shares, .int (i32 r_size)])), (aX3_shares, aL X.cJ 16 r_shares)]) [] [0, 1] rfl rfl rfl (by decide) (by decide) (by decide) (List.mem_of_getElem? (i := 8) rfl) wT_X7_roundedUp wZ_X7 wC_X7_roundedUp 2 rfl (by decide +kernel) (by rw [hR]; exact ⟨by show 1 + 1 ≤ 2; omega, by show 8 + (4 + 11) + 100 * 1 ≤ 100 * 2; omega⟩) (by rw [hR]; exact ⟨Nat.le_refl _, Nat.le_refl _⟩) (Nat.le_of_ble_eq_true rfl) rfl dX3_byFactors_26 (fun rv w1 hq => ?_)
    obtain ⟨x26, rfl, rfl, rx26, h⟩ := hq
    show Wat X 0 0 29 [(0, .ref hX3), (3, .long (i64 l3)), (5, .long (i64 l5)), (7, .long (i64 l7)), (9, .int (i32 l9))] [.long (i64 x26)] [(hX3, .inr (3, [.ref aX3_shares, .int (i32 r_size)])), (aX3_shares, aL X.cJ 16 r_shares)]
    refine q_lstore (lv' := [(10, .long (i64 x26)), (0, .ref hX3), (3, .long (i64 l3)), (5, .long (i64 l5)), (7, .long (i64 l7)), (9, .int (i32 l9))]) g 10   (by decide) rfl dX3_byFactors_29 ?_
    refine q_lload g 7 4 rfl dX3_byFactors_31 ?_
    refine q_lconst g 1 1 rfl dX3_byFactors_33 ?_
    refine q_lcmp_lt g (15) 50 r_l7 (r64_lit _ (by decide)) (by decide) dX3_byFactors_34 dX3_byFactors_35 (fun b34 => ?_) (fun b34 => ?_)
    · replace h := h.1 b34
      refine q_lv (lv' := []) [] rfl ?_
      exact s_X3_byFactors_50 g hR hX3 aX3_shares Q hF r_shares r_size r_r_shares r_r_size h
    replace h := h.2 b34
    refine q_lload g 10 0 rfl dX3_byFactors_38 ?_
    refine q_ldc2 (w := 1000000000000) g 40 (1000000000000) (by decide +kernel) wL_X3_40 dX3_byFactors_40 ?_
    refine q_lload g 7 4 rfl dX3_byFactors_43 ?_
    obtain ⟨c45, h⟩ := h
    refine q_ldiv g (r64_lit _ (by decide)) r_l7 (ne_of_pos c45) dX3_byFactors_45 ?_
    refine q_lcmp_le g (5) 52 rx26 (r64_tdiv (r64_lit _ (by decide)) c45) (by decide) dX3_byFactors_46 dX3_byFactors_47 (fun b46 => ?_) (fun b46 => ?_)
    · replace h := h.1 b46
      refine q_lload g 7 4 rfl dX3_byFactors_52 ?_
      refine q_lload g 10 0 rfl dX3_byFactors_54 ?_
      obtain ⟨c56, h⟩ := h
      refine q_lmul g dX3_byFactors_56 ?_
      refine q_topl c56 (fun x57 ex57 rx57 => ?_)
      replace h := h x57 ex57
      refine q_lstore (lv' := [(7, .long (i64 x57)), (10, .long (i64 x26)), (0, .ref hX3), (3, .long (i64 l3)), (5, .long (i64 l5)), (9, .int (i32 l9))]) g 7   (by decide) rfl dX3_byFactors_57 ?_
      refine q_aload_n g 0 2 rfl dX3_byFactors_59 ?_
      refine q_lload g 7 0 rfl dX3_byFactors_60 ?_
      refine q_callV (lev := 1) (mc := 0) (ms := 0) g 53 (c_X3_add X.l X.D X.cI X.cJ X.zt hX3 aX3_shares r_size r_shares x57 _ r_r_shares r_r_size rx57 h) (wr := []) [0, 1] [] rfl rfl rfl (by decide) (by decide) (by decide) (ci := 3) rfl rfl rfl wM_X3_53 wI_X3_add wS_X3_add wZ_X3 wC_X3_add 1 rfl (by decide +kernel) (by rw [hR]; exact ⟨by show 1 + 1 ≤ 2; omega, by show 8 + (3 + 11) + 100 * 1 ≤ 100 * 2; omega⟩) (by rw [hR]; exact ⟨Nat.le_refl _, Nat.le_refl _⟩) (Nat.le_of_ble_eq_true rfl) rfl dX3_byFactors_62 (fun rv w1 hq => ?_)
      obtain ⟨x62, r_shares_62, r_size_62, rfl, rfl, rx62, rr_shares_62, rr_size_62, h⟩ := hq
      show Wat X 0 0 65 [(7, .long (i64 x57)), (10, .long (i64 x26)), (0, .ref hX3), (3, .long (i64 l3)), (5, .long (i64 l5)), (9, .int (i32 l9))] [.int (i32 x62)] [(hX3, .inr (3, [.ref aX3_shares, .int (i32 r_size_62)])), (aX3_shares, aL X.cJ 16 r_shares_62)]
      refine q_if_ne g (5) 70 rx62 (by decide) dX3_byFactors_65 (fun b65 => ?_) (fun b65 => ?_)
      · replace h := h.1 b65
        refine q_lload g 10 1 rfl dX3_byFactors_70 ?_
        refine q_lload g 5 4 rfl dX3_byFactors_72 ?_
        obtain ⟨c74, h⟩ := h
        refine q_lmul g dX3_byFactors_74 ?_
        refine q_lload_n g 3 3 rfl dX3_byFactors_75 ?_
        obtain ⟨c76, h⟩ := h
        refine q_lsub g dX3_byFactors_76 ?_
        refine q_topl c76 (fun x77 ex77 rx77 => ?_)
        replace h := h x77 ex77
        refine q_lstore (lv' := [(5, .long (i64 x77)), (7, .long (i64 x57)), (10, .long (i64 x26)), (0, .ref hX3), (3, .long (i64 l3)), (9, .int (i32 l9))]) g 5   (by decide) rfl dX3_byFactors_77 ?_
        obtain ⟨c79, h⟩ := h
        refine q_iinc (lv' := [(9, .int (i32 (l9 + 1))), (5, .long (i64 x77)), (7, .long (i64 x57)), (10, .long (i64 x26)), (0, .ref hX3), (3, .long (i64 l3))]) g 9 5 1 (by decide) rfl rfl dX3_byFactors_79 ?_
        refine q_goto g (-73) 9 (by decide) dX3_byFactors_82 ?_
        refine q_lv (lv' := [(0, .ref hX3), (3, .long (i64 l3)), (5, .long (i64 x77)), (7, .long (i64 x57)), (9, .int (i32 (l9 + 1)))]) [4, 5, 1, 2, 0] rfl ?_
        exact ih r_shares_62 r_size_62 l3 x77 x57 (l9 + 1) rr_shares_62 rr_size_62 r_l3 rx77 rx57 c79 h
      replace h := h.2 b65
      refine q_iconst g (0) dX3_byFactors_68 ?_
      exact q_zret g hF (by decide) ⟨0, r_shares_62, r_size_62, rfl, rfl, (r32_lit _ (by decide)), rr_shares_62, rr_size_62, h⟩ dX3_byFactors_69
    replace h := h.2 b46
    refine q_lv (lv' := []) [] rfl ?_
    exact s_X3_byFactors_50 g hR hX3 aX3_shares Q hF r_shares r_size r_r_shares r_r_size h
def wp_X3_byFactors (Q : Int → (Int → Int) → Int → Prop) (r_shares : Int → Int) (r_size : Int) (l1 : Int) (l3 : Int) : Prop := (∃ n0 : Nat, wp_X3_byFactors_9 Q n0 r_shares r_size l3 l1 1 0)
set_option maxHeartbeats 4000000 in
set_option maxRecDepth 100000 in
theorem c_X3_byFactors (l : Launch) (D : va_G) (cI cJ : ClassId) (zt : Nat) (hX3 : Nat) (aX3_shares : Nat) (r_size : Int) (r_shares : Int → Int) (l1 : Int) (l3 : Int) (Q : Int → (Int → Int) → Int → Prop) (r_r_shares : rr64 r_shares) (r_r_size : r32 r_size) (r_l1 : r64 l1) (r_l3 : r64 l3) (h : wp_X3_byFactors Q r_shares r_size l1 l3) : Ct l D cI cJ zt yX3_byFactors cX3_byFactors 12 (some .boolean) 2 0 0 [.ref hX3, .long (i64 l1), .long (i64 l3)] [(hX3, .inr (3, [.ref aX3_shares, .int (i32 r_size)])), (aX3_shares, aL cJ 16 r_shares)] (po_X3_byFactors cI cJ hX3 aX3_shares Q) := by
  refine ct_of (by decide +kernel) (Nat.le_of_ble_eq_true rfl) (fun X hl hDD hcI hcJ hzt hR hF hnm g => ?_)
  subst hl; subst hDD; subst hcI; subst hcJ; subst hzt
  show Wat X 0 0 0 [(0, .ref hX3), (1, .long (i64 l1)), (3, .long (i64 l3))] [] [(hX3, .inr (3, [.ref aX3_shares, .int (i32 r_size)])), (aX3_shares, aL X.cJ 16 r_shares)]
  replace g : Gd X cX3_byFactors RX3 (some .boolean) 12 := g
  rw [wp_X3_byFactors] at h
  refine q_lload_n g 1 1 rfl dX3_byFactors_0 ?_
  refine q_lstore (lv' := [(5, .long (i64 l1)), (0, .ref hX3), (1, .long (i64 l1)), (3, .long (i64 l3))]) g 5   (by decide) rfl dX3_byFactors_1 ?_
  refine q_lconst g 1 1 rfl dX3_byFactors_3 ?_
  refine q_lstore (lv' := [(7, .long (i64 1)), (5, .long (i64 l1)), (0, .ref hX3), (1, .long (i64 l1)), (3, .long (i64 l3))]) g 7   (by decide) rfl dX3_byFactors_4 ?_
  refine q_iconst g (0) dX3_byFactors_6 ?_
  refine q_istore (lv' := [(9, .int (i32 0)), (7, .long (i64 1)), (5, .long (i64 l1)), (0, .ref hX3), (1, .long (i64 l1)), (3, .long (i64 l3))]) g 9   (by decide) rfl dX3_byFactors_7 ?_
  refine q_lv (lv' := [(0, .ref hX3), (3, .long (i64 l3)), (5, .long (i64 l1)), (7, .long (i64 1)), (9, .int (i32 0))]) [3, 5, 2, 1, 0] rfl ?_
  obtain ⟨n0, h⟩ := h
  exact s_X3_byFactors_9 g hR hX3 aX3_shares Q hF n0 r_shares r_size l3 l1 1 0 r_r_shares r_r_size r_l3 r_l1 (r64_lit _ (by decide)) (r32_lit _ (by decide)) h
theorem dX3_byGreed_0 : decode cX3_byGreed 0 = .ok (.lload_n 1, 1) := by decide +kernel
theorem dX3_byGreed_1 : decode cX3_byGreed 1 = .ok (.lstore 6, 2) := by decide +kernel
theorem dX3_byGreed_3 : decode cX3_byGreed 3 = .ok (.lload_n 3, 1) := by decide +kernel
theorem dX3_byGreed_4 : decode cX3_byGreed 4 = .ok (.lstore 8, 2) := by decide +kernel
theorem dX3_byGreed_6 : decode cX3_byGreed 6 = .ok (.lconst 1, 1) := by decide +kernel
theorem dX3_byGreed_7 : decode cX3_byGreed 7 = .ok (.lstore 10, 2) := by decide +kernel
theorem dX3_byGreed_9 : decode cX3_byGreed 9 = .ok (.iconst 0, 1) := by decide +kernel
theorem dX3_byGreed_10 : decode cX3_byGreed 10 = .ok (.istore 12, 2) := by decide +kernel
theorem dX3_byGreed_12 : decode cX3_byGreed 12 = .ok (.iload 12, 2) := by decide +kernel
theorem dX3_byGreed_14 : decode cX3_byGreed 14 = .ok (.bipush 16, 2) := by decide +kernel
theorem dX3_byGreed_16 : decode cX3_byGreed 16 = .ok (.if_icmp .ge 154, 3) := by decide +kernel
theorem dX3_byGreed_19 : decode cX3_byGreed 19 = .ok (.lload 6, 2) := by decide +kernel
theorem dX3_byGreed_21 : decode cX3_byGreed 21 = .ok (.lconst 0, 1) := by decide +kernel
theorem dX3_byGreed_22 : decode cX3_byGreed 22 = .ok (.lcmp, 1) := by decide +kernel
theorem dX3_byGreed_23 : decode cX3_byGreed 23 = .ok (.ifCond .le 147, 3) := by decide +kernel
theorem dX3_byGreed_26 : decode cX3_byGreed 26 = .ok (.lload 8, 2) := by decide +kernel
theorem dX3_byGreed_28 : decode cX3_byGreed 28 = .ok (.lload 6, 2) := by decide +kernel
theorem dX3_byGreed_30 : decode cX3_byGreed 30 = .ok (.invokestatic 42, 3) := by decide +kernel
theorem dX3_byGreed_33 : decode cX3_byGreed 33 = .ok (.lload 10, 2) := by decide +kernel
theorem dX3_byGreed_35 : decode cX3_byGreed 35 = .ok (.lconst 1, 1) := by decide +kernel
theorem dX3_byGreed_36 : decode cX3_byGreed 36 = .ok (.ladd, 1) := by decide +kernel
theorem dX3_byGreed_37 : decode cX3_byGreed 37 = .ok (.invokestatic 46, 3) := by decide +kernel
theorem dX3_byGreed_40 : decode cX3_byGreed 40 = .ok (.lstore 13, 2) := by decide +kernel
theorem dX3_byGreed_42 : decode cX3_byGreed 42 = .ok (.iload 5, 2) := by decide +kernel
theorem dX3_byGreed_44 : decode cX3_byGreed 44 = .ok (.ifCond .eq 20, 3) := by decide +kernel
theorem dX3_byGreed_47 : decode cX3_byGreed 47 = .ok (.lload 13, 2) := by decide +kernel
theorem dX3_byGreed_49 : decode cX3_byGreed 49 = .ok (.ldc2_w 51, 3) := by decide +kernel
theorem dX3_byGreed_52 : decode cX3_byGreed 52 = .ok (.lrem, 1) := by decide +kernel
theorem dX3_byGreed_53 : decode cX3_byGreed 53 = .ok (.lconst 0, 1) := by decide +kernel
theorem dX3_byGreed_54 : decode cX3_byGreed 54 = .ok (.lcmp, 1) := by decide +kernel
theorem dX3_byGreed_55 : decode cX3_byGreed 55 = .ok (.ifCond .ne 9, 3) := by decide +kernel
theorem dX3_byGreed_58 : decode cX3_byGreed 58 = .ok (.lload 13, 2) := by decide +kernel
theorem dX3_byGreed_60 : decode cX3_byGreed 60 = .ok (.lconst 1, 1) := by decide +kernel
theorem dX3_byGreed_61 : decode cX3_byGreed 61 = .ok (.ladd, 1) := by decide +kernel
theorem dX3_byGreed_62 : decode cX3_byGreed 62 = .ok (.lstore 13, 2) := by decide +kernel
theorem dX3_byGreed_64 : decode cX3_byGreed 64 = .ok (.lload 13, 2) := by decide +kernel
theorem dX3_byGreed_66 : decode cX3_byGreed 66 = .ok (.ldc2_w 51, 3) := by decide +kernel
theorem dX3_byGreed_69 : decode cX3_byGreed 69 = .ok (.lcmp, 1) := by decide +kernel
theorem dX3_byGreed_70 : decode cX3_byGreed 70 = .ok (.ifCond .lt 12, 3) := by decide +kernel
theorem dX3_byGreed_73 : decode cX3_byGreed 73 = .ok (.aload_n 0, 1) := by decide +kernel
theorem dX3_byGreed_74 : decode cX3_byGreed 74 = .ok (.lload 13, 2) := by decide +kernel
theorem dX3_byGreed_76 : decode cX3_byGreed 76 = .ok (.invokevirtual 53, 3) := by decide +kernel
theorem dX3_byGreed_79 : decode cX3_byGreed 79 = .ok (.ifCond .ne 5, 3) := by decide +kernel
theorem dX3_byGreed_82 : decode cX3_byGreed 82 = .ok (.iconst 0, 1) := by decide +kernel
theorem dX3_byGreed_83 : decode cX3_byGreed 83 = .ok (.ireturn, 1) := by decide +kernel
theorem dX3_byGreed_84 : decode cX3_byGreed 84 = .ok (.lload 8, 2) := by decide +kernel
theorem dX3_byGreed_86 : decode cX3_byGreed 86 = .ok (.lload 8, 2) := by decide +kernel
theorem dX3_byGreed_88 : decode cX3_byGreed 88 = .ok (.lload 13, 2) := by decide +kernel
theorem dX3_byGreed_90 : decode cX3_byGreed 90 = .ok (.invokestatic 57, 3) := by decide +kernel
theorem dX3_byGreed_93 : decode cX3_byGreed 93 = .ok (.ldiv, 1) := by decide +kernel
theorem dX3_byGreed_94 : decode cX3_byGreed 94 = .ok (.lstore 15, 2) := by decide +kernel
theorem dX3_byGreed_96 : decode cX3_byGreed 96 = .ok (.lload 8, 2) := by decide +kernel
theorem dX3_byGreed_98 : decode cX3_byGreed 98 = .ok (.lconst 1, 1) := by decide +kernel
theorem dX3_byGreed_99 : decode cX3_byGreed 99 = .ok (.lcmp, 1) := by decide +kernel
theorem dX3_byGreed_100 : decode cX3_byGreed 100 = .ok (.ifCond .lt 15, 3) := by decide +kernel
theorem dX3_byGreed_103 : decode cX3_byGreed 103 = .ok (.lload 15, 2) := by decide +kernel
theorem dX3_byGreed_105 : decode cX3_byGreed 105 = .ok (.ldc2_w 60, 3) := by decide +kernel
theorem dX3_byGreed_108 : decode cX3_byGreed 108 = .ok (.lload 13, 2) := by decide +kernel
theorem dX3_byGreed_110 : decode cX3_byGreed 110 = .ok (.ldiv, 1) := by decide +kernel
theorem dX3_byGreed_111 : decode cX3_byGreed 111 = .ok (.lcmp, 1) := by decide +kernel
theorem dX3_byGreed_112 : decode cX3_byGreed 112 = .ok (.ifCond .le 5, 3) := by decide +kernel
theorem dX3_byGreed_115 : decode cX3_byGreed 115 = .ok (.iconst 0, 1) := by decide +kernel
theorem dX3_byGreed_116 : decode cX3_byGreed 116 = .ok (.ireturn, 1) := by decide +kernel
theorem dX3_byGreed_117 : decode cX3_byGreed 117 = .ok (.lload 15, 2) := by decide +kernel
theorem dX3_byGreed_119 : decode cX3_byGreed 119 = .ok (.lload 13, 2) := by decide +kernel
theorem dX3_byGreed_121 : decode cX3_byGreed 121 = .ok (.lmul, 1) := by decide +kernel
theorem dX3_byGreed_122 : decode cX3_byGreed 122 = .ok (.lstore 17, 2) := by decide +kernel
theorem dX3_byGreed_124 : decode cX3_byGreed 124 = .ok (.lload 6, 2) := by decide +kernel
theorem dX3_byGreed_126 : decode cX3_byGreed 126 = .ok (.lload 17, 2) := by decide +kernel
theorem dX3_byGreed_128 : decode cX3_byGreed 128 = .ok (.lload 8, 2) := by decide +kernel
theorem dX3_byGreed_130 : decode cX3_byGreed 130 = .ok (.ldiv, 1) := by decide +kernel
theorem dX3_byGreed_131 : decode cX3_byGreed 131 = .ok (.lmul, 1) := by decide +kernel
theorem dX3_byGreed_132 : decode cX3_byGreed 132 = .ok (.lload 15, 2) := by decide +kernel
theorem dX3_byGreed_134 : decode cX3_byGreed 134 = .ok (.lsub, 1) := by decide +kernel
theorem dX3_byGreed_135 : decode cX3_byGreed 135 = .ok (.lstore 19, 2) := by decide +kernel
theorem dX3_byGreed_137 : decode cX3_byGreed 137 = .ok (.lload 19, 2) := by decide +kernel
theorem dX3_byGreed_139 : decode cX3_byGreed 139 = .ok (.lload 17, 2) := by decide +kernel
theorem dX3_byGreed_141 : decode cX3_byGreed 141 = .ok (.invokestatic 57, 3) := by decide +kernel
theorem dX3_byGreed_144 : decode cX3_byGreed 144 = .ok (.lstore 21, 2) := by decide +kernel
theorem dX3_byGreed_146 : decode cX3_byGreed 146 = .ok (.lload 19, 2) := by decide +kernel
theorem dX3_byGreed_148 : decode cX3_byGreed 148 = .ok (.lload 21, 2) := by decide +kernel
theorem dX3_byGreed_150 : decode cX3_byGreed 150 = .ok (.ldiv, 1) := by decide +kernel
theorem dX3_byGreed_151 : decode cX3_byGreed 151 = .ok (.lstore 6, 2) := by decide +kernel
theorem dX3_byGreed_153 : decode cX3_byGreed 153 = .ok (.lload 17, 2) := by decide +kernel
theorem dX3_byGreed_155 : decode cX3_byGreed 155 = .ok (.lload 21, 2) := by decide +kernel
theorem dX3_byGreed_157 : decode cX3_byGreed 157 = .ok (.ldiv, 1) := by decide +kernel
theorem dX3_byGreed_158 : decode cX3_byGreed 158 = .ok (.lstore 8, 2) := by decide +kernel
theorem dX3_byGreed_160 : decode cX3_byGreed 160 = .ok (.lload 13, 2) := by decide +kernel
theorem dX3_byGreed_162 : decode cX3_byGreed 162 = .ok (.lstore 10, 2) := by decide +kernel
theorem dX3_byGreed_164 : decode cX3_byGreed 164 = .ok (.iinc 12 1, 3) := by decide +kernel
theorem dX3_byGreed_167 : decode cX3_byGreed 167 = .ok (.goto (-155), 3) := by decide +kernel
theorem dX3_byGreed_170 : decode cX3_byGreed 170 = .ok (.lload 6, 2) := by decide +kernel
theorem dX3_byGreed_172 : decode cX3_byGreed 172 = .ok (.lconst 0, 1) := by decide +kernel
theorem dX3_byGreed_173 : decode cX3_byGreed 173 = .ok (.lcmp, 1) := by decide +kernel
theorem dX3_byGreed_174 : decode cX3_byGreed 174 = .ok (.ifCond .ne 7, 3) := by decide +kernel
theorem dX3_byGreed_177 : decode cX3_byGreed 177 = .ok (.iconst 1, 1) := by decide +kernel
theorem dX3_byGreed_178 : decode cX3_byGreed 178 = .ok (.goto 4, 3) := by decide +kernel
theorem dX3_byGreed_181 : decode cX3_byGreed 181 = .ok (.iconst 0, 1) := by decide +kernel
theorem dX3_byGreed_182 : decode cX3_byGreed 182 = .ok (.ireturn, 1) := by decide +kernel
abbrev po_X3_byGreed (cI cJ : ClassId) (hX3 : Nat) (aX3_shares : Nat) (Q : Int → (Int → Int) → Int → Prop) : Option Value → va_W → Prop := fun rv w1 => ∃ (r0 : Int) (r_shares : Int → Int) (r_size : Int), rv = some (.int (i32 r0)) ∧ w1 = [(hX3, .inr (3, [.ref aX3_shares, .int (i32 r_size)])), (aX3_shares, aL cJ 16 r_shares)] ∧ r32 r0 ∧ rr64 r_shares ∧ r32 r_size ∧ Q r0 r_shares r_size
def wp_X3_byGreed_82 (Q : Int → (Int → Int) → Int → Prop) (r_shares : Int → Int) (r_size : Int) : Prop := Q 0 r_shares r_size
set_option maxHeartbeats 4000000 in
set_option maxRecDepth 100000 in
theorem s_X3_byGreed_82 {X : Cx} (g : Gd X cX3_byGreed RX3 (some .boolean) 23) (hR : X.R = rmL 3 0 0) (hX3 : Nat) (aX3_shares : Nat) (Q : Int → (Int → Int) → Int → Prop) (hF : FQ X 0 0 (po_X3_byGreed X.cI X.cJ hX3 aX3_shares Q)) : ∀ (r_shares : Int → Int) (r_size : Int), rr64 r_shares → r32 r_size → wp_X3_byGreed_82 Q r_shares r_size → Wat X 0 0 82 [] [] [(hX3, .inr (3, [.ref aX3_shares, .int (i32 r_size)])), (aX3_shares, aL X.cJ 16 r_shares)] := by
  intro r_shares r_size r_r_shares r_r_size h
  rw [wp_X3_byGreed_82] at h
  refine q_iconst g (0) dX3_byGreed_82 ?_
  exact q_zret g hF (by decide) ⟨0, r_shares, r_size, rfl, rfl, (r32_lit _ (by decide)), r_r_shares, r_r_size, h⟩ dX3_byGreed_83
def wp_X3_byGreed_115 (Q : Int → (Int → Int) → Int → Prop) (r_shares : Int → Int) (r_size : Int) : Prop := Q 0 r_shares r_size
set_option maxHeartbeats 4000000 in
set_option maxRecDepth 100000 in
theorem s_X3_byGreed_115 {X : Cx} (g : Gd X cX3_byGreed RX3 (some .boolean) 23) (hR : X.R = rmL 3 0 0) (hX3 : Nat) (aX3_shares : Nat) (Q : Int → (Int → Int) → Int → Prop) (hF : FQ X 0 0 (po_X3_byGreed X.cI X.cJ hX3 aX3_shares Q)) : ∀ (r_shares : Int → Int) (r_size : Int), rr64 r_shares → r32 r_size → wp_X3_byGreed_115 Q r_shares r_size → Wat X 0 0 115 [] [] [(hX3, .inr (3, [.ref aX3_shares, .int (i32 r_size)])), (aX3_shares, aL X.cJ 16 r_shares)] := by
  intro r_shares r_size r_r_shares r_r_size h
  rw [wp_X3_byGreed_115] at h
  refine q_iconst g (0) dX3_byGreed_115 ?_
  exact q_zret g hF (by decide) ⟨0, r_shares, r_size, rfl, rfl, (r32_lit _ (by decide)), r_r_shares, r_r_size, h⟩ dX3_byGreed_116
def wp_X3_byGreed_64 (Q : Int → (Int → Int) → Int → Prop) (K_12 : (Int → Int) → Int → Int → Int → Int → Int → Int → Prop) (r_shares : Int → Int) (r_size : Int) (l5 : Int) (l6 : Int) (l8 : Int) (l12 : Int) (l13 : Int) : Prop := ((l13 < 2 → wp_X3_byGreed_82 Q r_shares r_size) ∧
  (¬ (l13 < 2) → wp_X3_add (fun (x76 : Int) (r_shares_76 : Int → Int) (r_size_76 : Int) => ((¬ x76 = 0 → wp_X7_commonDivisor (fun (x90 : Int) => (0 < x90 ∧ ∀ x94 : Int, x94 = (l8.tdiv x90) → ((l8 < 1 → wp_X3_byGreed_115 Q r_shares_76 r_size_76) ∧
  (¬ (l8 < 1) → (0 < l13 ∧ ((x94 ≤ (Int.tdiv 1000000000000000 l13) → (r64 (x94 * l13) ∧ ∀ x122 : Int, x122 = (x94 * l13) → 0 < l8 ∧ r64 (l6 * (x122.tdiv l8)) ∧ r64 ((l6 * (x122.tdiv l8)) - x94) ∧ ∀ x135 : Int, x135 = ((l6 * (x122.tdiv l8)) - x94) → wp_X7_commonDivisor (fun (x141 : Int) => (0 < x141 ∧ ∀ x151 : Int, x151 = (x135.tdiv x141) → 0 < x141 ∧ ∀ x158 : Int, x158 = (x122.tdiv x141) → r32 (l12 + 1) ∧ K_12 r_shares_76 r_size_76 l5 x151 x158 l13 (l12 + 1))) x135 x122)) ∧
  (¬ (x94 ≤ (Int.tdiv 1000000000000000 l13)) → wp_X3_byGreed_115 Q r_shares_76 r_size_76))))))) l8 l13) ∧
  (x76 = 0 → wp_X3_byGreed_82 Q r_shares_76 r_size_76))) r_shares r_size l13))
set_option maxHeartbeats 4000000 in
set_option maxRecDepth 100000 in
theorem s_X3_byGreed_64 {X : Cx} (g : Gd X cX3_byGreed RX3 (some .boolean) 23) (hR : X.R = rmL 3 0 0) (hX3 : Nat) (aX3_shares : Nat) (Q : Int → (Int → Int) → Int → Prop) (hF : FQ X 0 0 (po_X3_byGreed X.cI X.cJ hX3 aX3_shares Q)) (K_12 : (Int → Int) → Int → Int → Int → Int → Int → Int → Prop) (hK_12 : ∀ (r_shares : Int → Int) (r_size : Int) (l5 : Int) (l6 : Int) (l8 : Int) (l10 : Int) (l12 : Int), rr64 r_shares → r32 r_size → r32 l5 → r64 l6 → r64 l8 → r64 l10 → r32 l12 → K_12 r_shares r_size l5 l6 l8 l10 l12 → Wat X 0 0 12 [(0, .ref hX3), (5, .int (i32 l5)), (6, .long (i64 l6)), (8, .long (i64 l8)), (10, .long (i64 l10)), (12, .int (i32 l12))] [] [(hX3, .inr (3, [.ref aX3_shares, .int (i32 r_size)])), (aX3_shares, aL X.cJ 16 r_shares)]) : ∀ (r_shares : Int → Int) (r_size : Int) (l5 : Int) (l6 : Int) (l8 : Int) (l12 : Int) (l13 : Int), rr64 r_shares → r32 r_size → r32 l5 → r64 l6 → r64 l8 → r32 l12 → r64 l13 → wp_X3_byGreed_64 Q K_12 r_shares r_size l5 l6 l8 l12 l13 → Wat X 0 0 64 [(0, .ref hX3), (5, .int (i32 l5)), (6, .long (i64 l6)), (8, .long (i64 l8)), (12, .int (i32 l12)), (13, .long (i64 l13))] [] [(hX3, .inr (3, [.ref aX3_shares, .int (i32 r_size)])), (aX3_shares, aL X.cJ 16 r_shares)] := by
  intro r_shares r_size l5 l6 l8 l12 l13 r_r_shares r_r_size r_l5 r_l6 r_l8 r_l12 r_l13 h
  rw [wp_X3_byGreed_64] at h
  refine q_lload g 13 5 rfl dX3_byGreed_64 ?_
  refine q_ldc2 (w := 2) g 51 (2) (by decide +kernel) wL_X3_51 dX3_byGreed_66 ?_
  refine q_lcmp_lt g (12) 82 r_l13 (r64_lit _ (by decide)) (by decide) dX3_byGreed_69 dX3_byGreed_70 (fun b69 => ?_) (fun b69 => ?_)
  · replace h := h.1 b69
    refine q_lv (lv' := []) [] rfl ?_
    exact s_X3_byGreed_82 g hR hX3 aX3_shares Q hF r_shares r_size r_r_shares r_r_size h
  replace h := h.2 b69
  refine q_aload_n g 0 0 rfl dX3_byGreed_73 ?_
  refine q_lload g 13 5 rfl dX3_byGreed_74 ?_
  refine q_callV (lev := 1) (mc := 0) (ms := 0) g 53 (c_X3_add X.l X.D X.cI X.cJ X.zt hX3 aX3_shares r_size r_shares l13 _ r_r_shares r_r_size r_l13 h) (wr := []) [0, 1] [] rfl rfl rfl (by decide) (by decide) (by decide) (ci := 3) rfl rfl rfl wM_X3_53 wI_X3_add wS_X3_add wZ_X3 wC_X3_add 1 rfl (by decide +kernel) (by rw [hR]; exact ⟨by show 1 + 1 ≤ 3; omega, by show 8 + (3 + 11) + 100 * 1 ≤ 100 * 3; omega⟩) (by rw [hR]; exact ⟨Nat.le_refl _, Nat.le_refl _⟩) (Nat.le_of_ble_eq_true rfl) rfl dX3_byGreed_76 (fun rv w1 hq => ?_)
  obtain ⟨x76, r_shares_76, r_size_76, rfl, rfl, rx76, rr_shares_76, rr_size_76, h⟩ := hq
  show Wat X 0 0 79 [(0, .ref hX3), (5, .int (i32 l5)), (6, .long (i64 l6)), (8, .long (i64 l8)), (12, .int (i32 l12)), (13, .long (i64 l13))] [.int (i32 x76)] [(hX3, .inr (3, [.ref aX3_shares, .int (i32 r_size_76)])), (aX3_shares, aL X.cJ 16 r_shares_76)]
  refine q_if_ne g (5) 84 rx76 (by decide) dX3_byGreed_79 (fun b79 => ?_) (fun b79 => ?_)
  · replace h := h.1 b79
    refine q_lload g 8 3 rfl dX3_byGreed_84 ?_
    refine q_lload g 8 3 rfl dX3_byGreed_86 ?_
    refine q_lload g 13 5 rfl dX3_byGreed_88 ?_
    refine q_callSN (lev := 2) (mc := 0) (ms := 0) (As := [.long (i64 l8), .long (i64 l13)]) (host := RX7) g 57 (c_X7_commonDivisor X.l X.D X.cI X.cJ X.zt l8 l13 _ r_l8 r_l13 h) (wr := [(hX3, .inr (3, [.ref aX3_shares, .int (i32 r_size_76)])), (aX3_shares, aL X.cJ 16 r_shares_76)]) [] [0, 1] rfl rfl rfl (by decide) (by decide) (by decide) (List.mem_of_getElem? (i := 9) rfl) wT_X7_commonDivisor wZ_X7 wC_X7_commonDivisor 2 rfl (by decide +kernel) (by rw [hR]; exact ⟨by show 2 + 1 ≤ 3; omega, by show 8 + (11 + 11) + 100 * 2 ≤ 100 * 3; omega⟩) (by rw [hR]; exact ⟨Nat.le_refl _, Nat.le_refl _⟩) (Nat.le_of_ble_eq_true rfl) rfl dX3_byGreed_90 (fun rv w1 hq => ?_)
    obtain ⟨x90, rfl, rfl, rx90, h⟩ := hq
    show Wat X 0 0 93 [(0, .ref hX3), (5, .int (i32 l5)), (6, .long (i64 l6)), (8, .long (i64 l8)), (12, .int (i32 l12)), (13, .long (i64 l13))] [.long (i64 x90), .long (i64 l8)] [(hX3, .inr (3, [.ref aX3_shares, .int (i32 r_size_76)])), (aX3_shares, aL X.cJ 16 r_shares_76)]
    obtain ⟨c93, h⟩ := h
    refine q_ldiv g r_l8 rx90 (ne_of_pos c93) dX3_byGreed_93 ?_
    refine q_topl (r64_tdiv r_l8 c93) (fun x94 ex94 rx94 => ?_)
    replace h := h x94 ex94
    refine q_lstore (lv' := [(15, .long (i64 x94)), (0, .ref hX3), (5, .int (i32 l5)), (6, .long (i64 l6)), (8, .long (i64 l8)), (12, .int (i32 l12)), (13, .long (i64 l13))]) g 15   (by decide) rfl dX3_byGreed_94 ?_
    refine q_lload g 8 4 rfl dX3_byGreed_96 ?_
    refine q_lconst g 1 1 rfl dX3_byGreed_98 ?_
    refine q_lcmp_lt g (15) 115 r_l8 (r64_lit _ (by decide)) (by decide) dX3_byGreed_99 dX3_byGreed_100 (fun b99 => ?_) (fun b99 => ?_)
    · replace h := h.1 b99
      refine q_lv (lv' := []) [] rfl ?_
      exact s_X3_byGreed_115 g hR hX3 aX3_shares Q hF r_shares_76 r_size_76 rr_shares_76 rr_size_76 h
    replace h := h.2 b99
    refine q_lload g 15 0 rfl dX3_byGreed_103 ?_
    refine q_ldc2 (w := 1000000000000000) g 60 (1000000000000000) (by decide +kernel) wL_X3_60 dX3_byGreed_105 ?_
    refine q_lload g 13 6 rfl dX3_byGreed_108 ?_
    obtain ⟨c110, h⟩ := h
    refine q_ldiv g (r64_lit _ (by decide)) r_l13 (ne_of_pos c110) dX3_byGreed_110 ?_
    refine q_lcmp_le g (5) 117 rx94 (r64_tdiv (r64_lit _ (by decide)) c110) (by decide) dX3_byGreed_111 dX3_byGreed_112 (fun b111 => ?_) (fun b111 => ?_)
    · replace h := h.1 b111
      refine q_lload g 15 0 rfl dX3_byGreed_117 ?_
      refine q_lload g 13 6 rfl dX3_byGreed_119 ?_
      obtain ⟨c121, h⟩ := h
      refine q_lmul g dX3_byGreed_121 ?_
      refine q_topl c121 (fun x122 ex122 rx122 => ?_)
      replace h := h x122 ex122
      refine q_lstore (lv' := [(17, .long (i64 x122)), (15, .long (i64 x94)), (0, .ref hX3), (5, .int (i32 l5)), (6, .long (i64 l6)), (8, .long (i64 l8)), (12, .int (i32 l12)), (13, .long (i64 l13))]) g 17   (by decide) rfl dX3_byGreed_122 ?_
      refine q_lload g 6 4 rfl dX3_byGreed_124 ?_
      refine q_lload g 17 0 rfl dX3_byGreed_126 ?_
      refine q_lload g 8 5 rfl dX3_byGreed_128 ?_
      obtain ⟨c130, h⟩ := h
      refine q_ldiv g rx122 r_l8 (ne_of_pos c130) dX3_byGreed_130 ?_
      obtain ⟨c131, h⟩ := h
      refine q_lmul g dX3_byGreed_131 ?_
      refine q_lload g 15 1 rfl dX3_byGreed_132 ?_
      obtain ⟨c134, h⟩ := h
      refine q_lsub g dX3_byGreed_134 ?_
      refine q_topl c134 (fun x135 ex135 rx135 => ?_)
      replace h := h x135 ex135
      refine q_lstore (lv' := [(19, .long (i64 x135)), (17, .long (i64 x122)), (15, .long (i64 x94)), (0, .ref hX3), (5, .int (i32 l5)), (6, .long (i64 l6)), (8, .long (i64 l8)), (12, .int (i32 l12)), (13, .long (i64 l13))]) g 19   (by decide) rfl dX3_byGreed_135 ?_
      refine q_lload g 19 0 rfl dX3_byGreed_137 ?_
      refine q_lload g 17 1 rfl dX3_byGreed_139 ?_
      refine q_callSN (lev := 2) (mc := 0) (ms := 0) (As := [.long (i64 x135), .long (i64 x122)]) (host := RX7) g 57 (c_X7_commonDivisor X.l X.D X.cI X.cJ X.zt x135 x122 _ rx135 rx122 h) (wr := [(hX3, .inr (3, [.ref aX3_shares, .int (i32 r_size_76)])), (aX3_shares, aL X.cJ 16 r_shares_76)]) [] [0, 1] rfl rfl rfl (by decide) (by decide) (by decide) (List.mem_of_getElem? (i := 9) rfl) wT_X7_commonDivisor wZ_X7 wC_X7_commonDivisor 2 rfl (by decide +kernel) (by rw [hR]; exact ⟨by show 2 + 1 ≤ 3; omega, by show 8 + (11 + 11) + 100 * 2 ≤ 100 * 3; omega⟩) (by rw [hR]; exact ⟨Nat.le_refl _, Nat.le_refl _⟩) (Nat.le_of_ble_eq_true rfl) rfl dX3_byGreed_141 (fun rv w1 hq => ?_)
      obtain ⟨x141, rfl, rfl, rx141, h⟩ := hq
      show Wat X 0 0 144 [(19, .long (i64 x135)), (17, .long (i64 x122)), (15, .long (i64 x94)), (0, .ref hX3), (5, .int (i32 l5)), (6, .long (i64 l6)), (8, .long (i64 l8)), (12, .int (i32 l12)), (13, .long (i64 l13))] [.long (i64 x141)] [(hX3, .inr (3, [.ref aX3_shares, .int (i32 r_size_76)])), (aX3_shares, aL X.cJ 16 r_shares_76)]
      refine q_lstore (lv' := [(21, .long (i64 x141)), (19, .long (i64 x135)), (17, .long (i64 x122)), (15, .long (i64 x94)), (0, .ref hX3), (5, .int (i32 l5)), (6, .long (i64 l6)), (8, .long (i64 l8)), (12, .int (i32 l12)), (13, .long (i64 l13))]) g 21   (by decide) rfl dX3_byGreed_144 ?_
      refine q_lload g 19 1 rfl dX3_byGreed_146 ?_
      refine q_lload g 21 0 rfl dX3_byGreed_148 ?_
      obtain ⟨c150, h⟩ := h
      refine q_ldiv g rx135 rx141 (ne_of_pos c150) dX3_byGreed_150 ?_
      refine q_topl (r64_tdiv rx135 c150) (fun x151 ex151 rx151 => ?_)
      replace h := h x151 ex151
      refine q_lstore (lv' := [(6, .long (i64 x151)), (21, .long (i64 x141)), (19, .long (i64 x135)), (17, .long (i64 x122)), (15, .long (i64 x94)), (0, .ref hX3), (5, .int (i32 l5)), (8, .long (i64 l8)), (12, .int (i32 l12)), (13, .long (i64 l13))]) g 6   (by decide) rfl dX3_byGreed_151 ?_
      refine q_lload g 17 3 rfl dX3_byGreed_153 ?_
      refine q_lload g 21 1 rfl dX3_byGreed_155 ?_
      obtain ⟨c157, h⟩ := h
      refine q_ldiv g rx122 rx141 (ne_of_pos c157) dX3_byGreed_157 ?_
      refine q_topl (r64_tdiv rx122 c157) (fun x158 ex158 rx158 => ?_)
      replace h := h x158 ex158
      refine q_lstore (lv' := [(8, .long (i64 x158)), (6, .long (i64 x151)), (21, .long (i64 x141)), (19, .long (i64 x135)), (17, .long (i64 x122)), (15, .long (i64 x94)), (0, .ref hX3), (5, .int (i32 l5)), (12, .int (i32 l12)), (13, .long (i64 l13))]) g 8   (by decide) rfl dX3_byGreed_158 ?_
      refine q_lload g 13 9 rfl dX3_byGreed_160 ?_
      refine q_lstore (lv' := [(10, .long (i64 l13)), (8, .long (i64 x158)), (6, .long (i64 x151)), (21, .long (i64 x141)), (19, .long (i64 x135)), (17, .long (i64 x122)), (15, .long (i64 x94)), (0, .ref hX3), (5, .int (i32 l5)), (12, .int (i32 l12)), (13, .long (i64 l13))]) g 10   (by decide) rfl dX3_byGreed_162 ?_
      obtain ⟨c164, h⟩ := h
      refine q_iinc (lv' := [(12, .int (i32 (l12 + 1))), (10, .long (i64 l13)), (8, .long (i64 x158)), (6, .long (i64 x151)), (21, .long (i64 x141)), (19, .long (i64 x135)), (17, .long (i64 x122)), (15, .long (i64 x94)), (0, .ref hX3), (5, .int (i32 l5)), (13, .long (i64 l13))]) g 12 9 1 (by decide) rfl rfl dX3_byGreed_164 ?_
      refine q_goto g (-155) 12 (by decide) dX3_byGreed_167 ?_
      refine q_lv (lv' := [(0, .ref hX3), (5, .int (i32 l5)), (6, .long (i64 x151)), (8, .long (i64 x158)), (10, .long (i64 l13)), (12, .int (i32 (l12 + 1)))]) [8, 9, 3, 2, 1, 0] rfl ?_
      exact hK_12 r_shares_76 r_size_76 l5 x151 x158 l13 (l12 + 1) rr_shares_76 rr_size_76 r_l5 rx151 rx158 r_l13 c164 h
    replace h := h.2 b111
    refine q_lv (lv' := []) [] rfl ?_
    exact s_X3_byGreed_115 g hR hX3 aX3_shares Q hF r_shares_76 r_size_76 rr_shares_76 rr_size_76 h
  replace h := h.2 b79
  refine q_lv (lv' := []) [] rfl ?_
  exact s_X3_byGreed_82 g hR hX3 aX3_shares Q hF r_shares_76 r_size_76 rr_shares_76 rr_size_76 h
def wp_X3_byGreed_182 (Q : Int → (Int → Int) → Int → Prop) (r_shares : Int → Int) (r_size : Int) (k0 : Int) : Prop := ((k0 = 0 ∨ k0 = 1) ∧ Q k0 r_shares r_size)
set_option maxHeartbeats 4000000 in
set_option maxRecDepth 100000 in
theorem s_X3_byGreed_182 {X : Cx} (g : Gd X cX3_byGreed RX3 (some .boolean) 23) (hR : X.R = rmL 3 0 0) (hX3 : Nat) (aX3_shares : Nat) (Q : Int → (Int → Int) → Int → Prop) (hF : FQ X 0 0 (po_X3_byGreed X.cI X.cJ hX3 aX3_shares Q)) : ∀ (r_shares : Int → Int) (r_size : Int) (k0 : Int), rr64 r_shares → r32 r_size → r32 k0 → wp_X3_byGreed_182 Q r_shares r_size k0 → Wat X 0 0 182 [] [.int (i32 k0)] [(hX3, .inr (3, [.ref aX3_shares, .int (i32 r_size)])), (aX3_shares, aL X.cJ 16 r_shares)] := by
  intro r_shares r_size k0 r_r_shares r_r_size r_k0 h
  rw [wp_X3_byGreed_182] at h
  obtain ⟨z182, h⟩ := h
  exact q_zret g hF z182 ⟨k0, r_shares, r_size, rfl, rfl, r_k0, r_r_shares, r_r_size, h⟩ dX3_byGreed_182
def wp_X3_byGreed_170 (Q : Int → (Int → Int) → Int → Prop) (r_shares : Int → Int) (r_size : Int) (l6 : Int) : Prop := ((¬ l6 = 0 → wp_X3_byGreed_182 Q r_shares r_size 0) ∧
  (l6 = 0 → wp_X3_byGreed_182 Q r_shares r_size 1))
set_option maxHeartbeats 4000000 in
set_option maxRecDepth 100000 in
theorem s_X3_byGreed_170 {X : Cx} (g : Gd X cX3_byGreed RX3 (some .boolean) 23) (hR : X.R = rmL 3 0 0) (hX3 : Nat) (aX3_shares : Nat) (Q : Int → (Int → Int) → Int → Prop) (hF : FQ X 0 0 (po_X3_byGreed X.cI X.cJ hX3 aX3_shares Q)) : ∀ (r_shares : Int → Int) (r_size : Int) (l6 : Int), rr64 r_shares → r32 r_size → r64 l6 → wp_X3_byGreed_170 Q r_shares r_size l6 → Wat X 0 0 170 [(6, .long (i64 l6))] [] [(hX3, .inr (3, [.ref aX3_shares, .int (i32 r_size)])), (aX3_shares, aL X.cJ 16 r_shares)] := by
  intro r_shares r_size l6 r_r_shares r_r_size r_l6 h
  rw [wp_X3_byGreed_170] at h
  refine q_lload g 6 0 rfl dX3_byGreed_170 ?_
  refine q_lconst g 0 0 rfl dX3_byGreed_172 ?_
  refine q_lcmp_ne g (7) 181 r_l6 (r64_lit _ (by decide)) (by decide) dX3_byGreed_173 dX3_byGreed_174 (fun b173 => ?_) (fun b173 => ?_)
  · replace h := h.1 b173
    refine q_iconst g (0) dX3_byGreed_181 ?_
    refine q_lv (lv' := []) [] rfl ?_
    exact s_X3_byGreed_182 g hR hX3 aX3_shares Q hF r_shares r_size 0 r_r_shares r_r_size (r32_lit _ (by decide)) h
  replace h := h.2 b173
  refine q_iconst g (1) dX3_byGreed_177 ?_
  refine q_goto g (4) 182 (by decide) dX3_byGreed_178 ?_
  refine q_lv (lv' := []) [] rfl ?_
  exact s_X3_byGreed_182 g hR hX3 aX3_shares Q hF r_shares r_size 1 r_r_shares r_r_size (r32_lit _ (by decide)) h
def wp_X3_byGreed_12 (Q : Int → (Int → Int) → Int → Prop) : Nat → (Int → Int) → Int → Int → Int → Int → Int → Int → Prop
  | 0, _, _, _, _, _, _, _ => False
  | n + 1, r_shares, r_size, l5, l6, l8, l10, l12 => ((16 ≤ l12 → wp_X3_byGreed_170 Q r_shares r_size l6) ∧
  (¬ (16 ≤ l12) → ((l6 ≤ 0 → wp_X3_byGreed_170 Q r_shares r_size l6) ∧
  (¬ (l6 ≤ 0) → wp_X7_roundedUp (fun (x30 : Int) => (r64 (l10 + 1) ∧ ∀ x40 : Int, x40 = (max x30 (l10 + 1)) → ((l5 = 0 → wp_X3_byGreed_64 Q (wp_X3_byGreed_12 Q n) r_shares r_size l5 l6 l8 l12 x40) ∧
  (¬ (l5 = 0) → ((¬ (x40.tmod 2) = 0 → wp_X3_byGreed_64 Q (wp_X3_byGreed_12 Q n) r_shares r_size l5 l6 l8 l12 x40) ∧
  ((x40.tmod 2) = 0 → (r64 (x40 + 1) ∧ ∀ x62 : Int, x62 = (x40 + 1) → wp_X3_byGreed_64 Q (wp_X3_byGreed_12 Q n) r_shares r_size l5 l6 l8 l12 x62))))))) l8 l6))))
set_option maxHeartbeats 4000000 in
set_option maxRecDepth 100000 in
theorem s_X3_byGreed_12 {X : Cx} (g : Gd X cX3_byGreed RX3 (some .boolean) 23) (hR : X.R = rmL 3 0 0) (hX3 : Nat) (aX3_shares : Nat) (Q : Int → (Int → Int) → Int → Prop) (hF : FQ X 0 0 (po_X3_byGreed X.cI X.cJ hX3 aX3_shares Q)) : ∀ (n : Nat) (r_shares : Int → Int) (r_size : Int) (l5 : Int) (l6 : Int) (l8 : Int) (l10 : Int) (l12 : Int), rr64 r_shares → r32 r_size → r32 l5 → r64 l6 → r64 l8 → r64 l10 → r32 l12 → wp_X3_byGreed_12 Q n r_shares r_size l5 l6 l8 l10 l12 → Wat X 0 0 12 [(0, .ref hX3), (5, .int (i32 l5)), (6, .long (i64 l6)), (8, .long (i64 l8)), (10, .long (i64 l10)), (12, .int (i32 l12))] [] [(hX3, .inr (3, [.ref aX3_shares, .int (i32 r_size)])), (aX3_shares, aL X.cJ 16 r_shares)] := by
  intro n
  induction n with
  | zero => intro r_shares r_size l5 l6 l8 l10 l12 r_r_shares r_r_size r_l5 r_l6 r_l8 r_l10 r_l12 h; exact False.elim h
  | succ n ih =>
    intro r_shares r_size l5 l6 l8 l10 l12 r_r_shares r_r_size r_l5 r_l6 r_l8 r_l10 r_l12 h
    rw [wp_X3_byGreed_12] at h
    refine q_iload g 12 5 rfl dX3_byGreed_12 ?_
    refine q_bipush g (16) (by decide) (by decide) dX3_byGreed_14 ?_
    refine q_icmp_ge g (154) 170 r_l12 (r32_lit _ (by decide)) (by decide) dX3_byGreed_16 (fun b16 => ?_) (fun b16 => ?_)
    · replace h := h.1 b16
      refine q_lv (lv' := [(6, .long (i64 l6))]) [2] rfl ?_
      exact s_X3_byGreed_170 g hR hX3 aX3_shares Q hF r_shares r_size l6 r_r_shares r_r_size r_l6 h
    replace h := h.2 b16
    refine q_lload g 6 2 rfl dX3_byGreed_19 ?_
    refine q_lconst g 0 0 rfl dX3_byGreed_21 ?_
    refine q_lcmp_le g (147) 170 r_l6 (r64_lit _ (by decide)) (by decide) dX3_byGreed_22 dX3_byGreed_23 (fun b22 => ?_) (fun b22 => ?_)
    · replace h := h.1 b22
      refine q_lv (lv' := [(6, .long (i64 l6))]) [2] rfl ?_
      exact s_X3_byGreed_170 g hR hX3 aX3_shares Q hF r_shares r_size l6 r_r_shares r_r_size r_l6 h
    replace h := h.2 b22
    refine q_lload g 8 3 rfl dX3_byGreed_26 ?_
    refine q_lload g 6 2 rfl dX3_byGreed_28 ?_
    refine q_callSN (lev := 1) (mc := 0) (ms := 0) (As := [.long (i64 l8), .long (i64 l6)]) (host := RX7) g 42 (c_X7_roundedUp X.l X.D X.cI X.cJ X.zt l8 l6 _ r_l8 r_l6 h) (wr := [(hX3, .inr (3, [.ref aX3_shares, .int (i32 r_size)])), (aX3_shares, aL X.cJ 16 r_shares)]) [] [0, 1] rfl rfl rfl (by decide) (by decide) (by decide) (List.mem_of_getElem? (i := 8) rfl) wT_X7_roundedUp wZ_X7 wC_X7_roundedUp 2 rfl (by decide +kernel) (by rw [hR]; exact ⟨by show 1 + 1 ≤ 3; omega, by show 8 + (4 + 11) + 100 * 1 ≤ 100 * 3; omega⟩) (by rw [hR]; exact ⟨Nat.le_refl _, Nat.le_refl _⟩) (Nat.le_of_ble_eq_true rfl) rfl dX3_byGreed_30 (fun rv w1 hq => ?_)
    obtain ⟨x30, rfl, rfl, rx30, h⟩ := hq
    show Wat X 0 0 33 [(0, .ref hX3), (5, .int (i32 l5)), (6, .long (i64 l6)), (8, .long (i64 l8)), (10, .long (i64 l10)), (12, .int (i32 l12))] [.long (i64 x30)] [(hX3, .inr (3, [.ref aX3_shares, .int (i32 r_size)])), (aX3_shares, aL X.cJ 16 r_shares)]
    refine q_lload g 10 4 rfl dX3_byGreed_33 ?_
    refine q_lconst g 1 1 rfl dX3_byGreed_35 ?_
    obtain ⟨c36, h⟩ := h
    refine q_ladd g dX3_byGreed_36 ?_
    refine q_mmaxL g 46 rx30 c36 wM_X3_46 wT_J9_max_f86c9 wZ_J9 wC_J9_max_f86c9 (by rw [hR]; exact ⟨by show 1 ≤ 3; omega, by show 100 ≤ 100 * 3; omega, Nat.le_refl _, Nat.le_refl _⟩) (Nat.le_of_ble_eq_true rfl) dX3_byGreed_37 ?_
    refine q_topl (r64_max rx30 c36) (fun x40 ex40 rx40 => ?_)
    replace h := h x40 ex40
    refine q_lstore (lv' := [(13, .long (i64 x40)), (0, .ref hX3), (5, .int (i32 l5)), (6, .long (i64 l6)), (8, .long (i64 l8)), (10, .long (i64 l10)), (12, .int (i32 l12))]) g 13   (by decide) rfl dX3_byGreed_40 ?_
    refine q_iload g 5 2 rfl dX3_byGreed_42 ?_
    refine q_if_eq g (20) 64 r_l5 (by decide) dX3_byGreed_44 (fun b44 => ?_) (fun b44 => ?_)
    · replace h := h.1 b44
      refine q_lv (lv' := [(0, .ref hX3), (5, .int (i32 l5)), (6, .long (i64 l6)), (8, .long (i64 l8)), (12, .int (i32 l12)), (13, .long (i64 x40))]) [1, 2, 3, 4, 6, 0] rfl ?_
      exact s_X3_byGreed_64 g hR hX3 aX3_shares Q hF (wp_X3_byGreed_12 Q n) (fun v0 v1 v2 v3 v4 v5 v6 w0 w1 w2 w3 w4 w5 w6 hh => ih v0 v1 v2 v3 v4 v5 v6 w0 w1 w2 w3 w4 w5 w6 hh) r_shares r_size l5 l6 l8 l12 x40 r_r_shares r_r_size r_l5 r_l6 r_l8 r_l12 rx40 h
    replace h := h.2 b44
    refine q_lload g 13 0 rfl dX3_byGreed_47 ?_
    refine q_ldc2 (w := 2) g 51 (2) (by decide +kernel) wL_X3_51 dX3_byGreed_49 ?_
    refine q_lrem g rx40 (r64_lit _ (by decide)) (ne_of_pos (by decide)) dX3_byGreed_52 ?_
    refine q_lconst g 0 0 rfl dX3_byGreed_53 ?_
    refine q_lcmp_ne g (9) 64 (r64_tmod rx40 (r64_lit _ (by decide)) (ne_of_pos (by decide))) (r64_lit _ (by decide)) (by decide) dX3_byGreed_54 dX3_byGreed_55 (fun b54 => ?_) (fun b54 => ?_)
    · replace h := h.1 b54
      refine q_lv (lv' := [(0, .ref hX3), (5, .int (i32 l5)), (6, .long (i64 l6)), (8, .long (i64 l8)), (12, .int (i32 l12)), (13, .long (i64 x40))]) [1, 2, 3, 4, 6, 0] rfl ?_
      exact s_X3_byGreed_64 g hR hX3 aX3_shares Q hF (wp_X3_byGreed_12 Q n) (fun v0 v1 v2 v3 v4 v5 v6 w0 w1 w2 w3 w4 w5 w6 hh => ih v0 v1 v2 v3 v4 v5 v6 w0 w1 w2 w3 w4 w5 w6 hh) r_shares r_size l5 l6 l8 l12 x40 r_r_shares r_r_size r_l5 r_l6 r_l8 r_l12 rx40 h
    replace h := h.2 b54
    refine q_lload g 13 0 rfl dX3_byGreed_58 ?_
    refine q_lconst g 1 1 rfl dX3_byGreed_60 ?_
    obtain ⟨c61, h⟩ := h
    refine q_ladd g dX3_byGreed_61 ?_
    refine q_topl c61 (fun x62 ex62 rx62 => ?_)
    replace h := h x62 ex62
    refine q_lstore (lv' := [(13, .long (i64 x62)), (0, .ref hX3), (5, .int (i32 l5)), (6, .long (i64 l6)), (8, .long (i64 l8)), (10, .long (i64 l10)), (12, .int (i32 l12))]) g 13   (by decide) rfl dX3_byGreed_62 ?_
    refine q_lv (lv' := [(0, .ref hX3), (5, .int (i32 l5)), (6, .long (i64 l6)), (8, .long (i64 l8)), (12, .int (i32 l12)), (13, .long (i64 x62))]) [1, 2, 3, 4, 6, 0] rfl ?_
    exact s_X3_byGreed_64 g hR hX3 aX3_shares Q hF (wp_X3_byGreed_12 Q n) (fun v0 v1 v2 v3 v4 v5 v6 w0 w1 w2 w3 w4 w5 w6 hh => ih v0 v1 v2 v3 v4 v5 v6 w0 w1 w2 w3 w4 w5 w6 hh) r_shares r_size l5 l6 l8 l12 x62 r_r_shares r_r_size r_l5 r_l6 r_l8 r_l12 rx62 h
def wp_X3_byGreed (Q : Int → (Int → Int) → Int → Prop) (r_shares : Int → Int) (r_size : Int) (l1 : Int) (l3 : Int) (l5 : Int) : Prop := (∃ n0 : Nat, wp_X3_byGreed_12 Q n0 r_shares r_size l5 l1 l3 1 0)
set_option maxHeartbeats 4000000 in
set_option maxRecDepth 100000 in
theorem c_X3_byGreed (l : Launch) (D : va_G) (cI cJ : ClassId) (zt : Nat) (hX3 : Nat) (aX3_shares : Nat) (r_size : Int) (r_shares : Int → Int) (l1 : Int) (l3 : Int) (l5 : Int) (Q : Int → (Int → Int) → Int → Prop) (r_r_shares : rr64 r_shares) (r_r_size : r32 r_size) (r_l1 : r64 l1) (r_l3 : r64 l3) (r_l5 : r32 l5) (h : wp_X3_byGreed Q r_shares r_size l1 l3 l5) : Ct l D cI cJ zt yX3_byGreed cX3_byGreed 23 (some .boolean) 3 0 0 [.ref hX3, .long (i64 l1), .long (i64 l3), .int (i32 l5)] [(hX3, .inr (3, [.ref aX3_shares, .int (i32 r_size)])), (aX3_shares, aL cJ 16 r_shares)] (po_X3_byGreed cI cJ hX3 aX3_shares Q) := by
  refine ct_of (by decide +kernel) (Nat.le_of_ble_eq_true rfl) (fun X hl hDD hcI hcJ hzt hR hF hnm g => ?_)
  subst hl; subst hDD; subst hcI; subst hcJ; subst hzt
  show Wat X 0 0 0 [(0, .ref hX3), (1, .long (i64 l1)), (3, .long (i64 l3)), (5, .int (i32 l5))] [] [(hX3, .inr (3, [.ref aX3_shares, .int (i32 r_size)])), (aX3_shares, aL X.cJ 16 r_shares)]
  replace g : Gd X cX3_byGreed RX3 (some .boolean) 23 := g
  rw [wp_X3_byGreed] at h
  refine q_lload_n g 1 1 rfl dX3_byGreed_0 ?_
  refine q_lstore (lv' := [(6, .long (i64 l1)), (0, .ref hX3), (1, .long (i64 l1)), (3, .long (i64 l3)), (5, .int (i32 l5))]) g 6   (by decide) rfl dX3_byGreed_1 ?_
  refine q_lload_n g 3 3 rfl dX3_byGreed_3 ?_
  refine q_lstore (lv' := [(8, .long (i64 l3)), (6, .long (i64 l1)), (0, .ref hX3), (1, .long (i64 l1)), (3, .long (i64 l3)), (5, .int (i32 l5))]) g 8   (by decide) rfl dX3_byGreed_4 ?_
  refine q_lconst g 1 1 rfl dX3_byGreed_6 ?_
  refine q_lstore (lv' := [(10, .long (i64 1)), (8, .long (i64 l3)), (6, .long (i64 l1)), (0, .ref hX3), (1, .long (i64 l1)), (3, .long (i64 l3)), (5, .int (i32 l5))]) g 10   (by decide) rfl dX3_byGreed_7 ?_
  refine q_iconst g (0) dX3_byGreed_9 ?_
  refine q_istore (lv' := [(12, .int (i32 0)), (10, .long (i64 1)), (8, .long (i64 l3)), (6, .long (i64 l1)), (0, .ref hX3), (1, .long (i64 l1)), (3, .long (i64 l3)), (5, .int (i32 l5))]) g 12   (by decide) rfl dX3_byGreed_10 ?_
  refine q_lv (lv' := [(0, .ref hX3), (5, .int (i32 l5)), (6, .long (i64 l1)), (8, .long (i64 l3)), (10, .long (i64 1)), (12, .int (i32 0))]) [4, 7, 3, 2, 1, 0] rfl ?_
  obtain ⟨n0, h⟩ := h
  exact s_X3_byGreed_12 g hR hX3 aX3_shares Q hF n0 r_shares r_size l5 l1 l3 1 0 r_r_shares r_r_size r_l5 r_l1 r_l3 (r64_lit _ (by decide)) (r32_lit _ (by decide)) h
theorem dX3_byMiddles_0 : decode cX3_byMiddles 0 = .ok (.lload_n 1, 1) := by decide +kernel
theorem dX3_byMiddles_1 : decode cX3_byMiddles 1 = .ok (.lstore 5, 2) := by decide +kernel
theorem dX3_byMiddles_3 : decode cX3_byMiddles 3 = .ok (.lload_n 3, 1) := by decide +kernel
theorem dX3_byMiddles_4 : decode cX3_byMiddles 4 = .ok (.lstore 7, 2) := by decide +kernel
theorem dX3_byMiddles_6 : decode cX3_byMiddles 6 = .ok (.iconst 0, 1) := by decide +kernel
theorem dX3_byMiddles_7 : decode cX3_byMiddles 7 = .ok (.istore 9, 2) := by decide +kernel
theorem dX3_byMiddles_9 : decode cX3_byMiddles 9 = .ok (.iload 9, 2) := by decide +kernel
theorem dX3_byMiddles_11 : decode cX3_byMiddles 11 = .ok (.bipush 16, 2) := by decide +kernel
theorem dX3_byMiddles_13 : decode cX3_byMiddles 13 = .ok (.if_icmp .ge 62, 3) := by decide +kernel
theorem dX3_byMiddles_16 : decode cX3_byMiddles 16 = .ok (.lload 5, 2) := by decide +kernel
theorem dX3_byMiddles_18 : decode cX3_byMiddles 18 = .ok (.lconst 0, 1) := by decide +kernel
theorem dX3_byMiddles_19 : decode cX3_byMiddles 19 = .ok (.lcmp, 1) := by decide +kernel
theorem dX3_byMiddles_20 : decode cX3_byMiddles 20 = .ok (.ifCond .le 55, 3) := by decide +kernel
theorem dX3_byMiddles_23 : decode cX3_byMiddles 23 = .ok (.lload 7, 2) := by decide +kernel
theorem dX3_byMiddles_25 : decode cX3_byMiddles 25 = .ok (.lconst 0, 1) := by decide +kernel
theorem dX3_byMiddles_26 : decode cX3_byMiddles 26 = .ok (.lcmp, 1) := by decide +kernel
theorem dX3_byMiddles_27 : decode cX3_byMiddles 27 = .ok (.ifCond .le 48, 3) := by decide +kernel
theorem dX3_byMiddles_30 : decode cX3_byMiddles 30 = .ok (.lload 5, 2) := by decide +kernel
theorem dX3_byMiddles_32 : decode cX3_byMiddles 32 = .ok (.lload 7, 2) := by decide +kernel
theorem dX3_byMiddles_34 : decode cX3_byMiddles 34 = .ok (.invokestatic 68, 3) := by decide +kernel
theorem dX3_byMiddles_37 : decode cX3_byMiddles 37 = .ok (.lstore 10, 2) := by decide +kernel
theorem dX3_byMiddles_39 : decode cX3_byMiddles 39 = .ok (.aload_n 0, 1) := by decide +kernel
theorem dX3_byMiddles_40 : decode cX3_byMiddles 40 = .ok (.lload 7, 2) := by decide +kernel
theorem dX3_byMiddles_42 : decode cX3_byMiddles 42 = .ok (.lload 10, 2) := by decide +kernel
theorem dX3_byMiddles_44 : decode cX3_byMiddles 44 = .ok (.lmul, 1) := by decide +kernel
theorem dX3_byMiddles_45 : decode cX3_byMiddles 45 = .ok (.invokevirtual 53, 3) := by decide +kernel
theorem dX3_byMiddles_48 : decode cX3_byMiddles 48 = .ok (.ifCond .ne 5, 3) := by decide +kernel
theorem dX3_byMiddles_51 : decode cX3_byMiddles 51 = .ok (.iconst 0, 1) := by decide +kernel
theorem dX3_byMiddles_52 : decode cX3_byMiddles 52 = .ok (.ireturn, 1) := by decide +kernel
theorem dX3_byMiddles_53 : decode cX3_byMiddles 53 = .ok (.lload 5, 2) := by decide +kernel
theorem dX3_byMiddles_55 : decode cX3_byMiddles 55 = .ok (.lload 10, 2) := by decide +kernel
theorem dX3_byMiddles_57 : decode cX3_byMiddles 57 = .ok (.lmul, 1) := by decide +kernel
theorem dX3_byMiddles_58 : decode cX3_byMiddles 58 = .ok (.lconst 1, 1) := by decide +kernel
theorem dX3_byMiddles_59 : decode cX3_byMiddles 59 = .ok (.lsub, 1) := by decide +kernel
theorem dX3_byMiddles_60 : decode cX3_byMiddles 60 = .ok (.lload 7, 2) := by decide +kernel
theorem dX3_byMiddles_62 : decode cX3_byMiddles 62 = .ok (.ldiv, 1) := by decide +kernel
theorem dX3_byMiddles_63 : decode cX3_byMiddles 63 = .ok (.lstore 5, 2) := by decide +kernel
theorem dX3_byMiddles_65 : decode cX3_byMiddles 65 = .ok (.lload 10, 2) := by decide +kernel
theorem dX3_byMiddles_67 : decode cX3_byMiddles 67 = .ok (.lstore 7, 2) := by decide +kernel
theorem dX3_byMiddles_69 : decode cX3_byMiddles 69 = .ok (.iinc 9 1, 3) := by decide +kernel
theorem dX3_byMiddles_72 : decode cX3_byMiddles 72 = .ok (.goto (-63), 3) := by decide +kernel
theorem dX3_byMiddles_75 : decode cX3_byMiddles 75 = .ok (.lload 5, 2) := by decide +kernel
theorem dX3_byMiddles_77 : decode cX3_byMiddles 77 = .ok (.lconst 0, 1) := by decide +kernel
theorem dX3_byMiddles_78 : decode cX3_byMiddles 78 = .ok (.lcmp, 1) := by decide +kernel
theorem dX3_byMiddles_79 : decode cX3_byMiddles 79 = .ok (.ifCond .ne 7, 3) := by decide +kernel
theorem dX3_byMiddles_82 : decode cX3_byMiddles 82 = .ok (.iconst 1, 1) := by decide +kernel
theorem dX3_byMiddles_83 : decode cX3_byMiddles 83 = .ok (.goto 4, 3) := by decide +kernel
theorem dX3_byMiddles_86 : decode cX3_byMiddles 86 = .ok (.iconst 0, 1) := by decide +kernel
theorem dX3_byMiddles_87 : decode cX3_byMiddles 87 = .ok (.ireturn, 1) := by decide +kernel
abbrev po_X3_byMiddles (cI cJ : ClassId) (hX3 : Nat) (aX3_shares : Nat) (Q : Int → (Int → Int) → Int → Prop) : Option Value → va_W → Prop := fun rv w1 => ∃ (r0 : Int) (r_shares : Int → Int) (r_size : Int), rv = some (.int (i32 r0)) ∧ w1 = [(hX3, .inr (3, [.ref aX3_shares, .int (i32 r_size)])), (aX3_shares, aL cJ 16 r_shares)] ∧ r32 r0 ∧ rr64 r_shares ∧ r32 r_size ∧ Q r0 r_shares r_size
def wp_X3_byMiddles_87 (Q : Int → (Int → Int) → Int → Prop) (r_shares : Int → Int) (r_size : Int) (k0 : Int) : Prop := ((k0 = 0 ∨ k0 = 1) ∧ Q k0 r_shares r_size)
set_option maxHeartbeats 4000000 in
set_option maxRecDepth 100000 in
theorem s_X3_byMiddles_87 {X : Cx} (g : Gd X cX3_byMiddles RX3 (some .boolean) 12) (hR : X.R = rmL 3 0 0) (hX3 : Nat) (aX3_shares : Nat) (Q : Int → (Int → Int) → Int → Prop) (hF : FQ X 0 0 (po_X3_byMiddles X.cI X.cJ hX3 aX3_shares Q)) : ∀ (r_shares : Int → Int) (r_size : Int) (k0 : Int), rr64 r_shares → r32 r_size → r32 k0 → wp_X3_byMiddles_87 Q r_shares r_size k0 → Wat X 0 0 87 [] [.int (i32 k0)] [(hX3, .inr (3, [.ref aX3_shares, .int (i32 r_size)])), (aX3_shares, aL X.cJ 16 r_shares)] := by
  intro r_shares r_size k0 r_r_shares r_r_size r_k0 h
  rw [wp_X3_byMiddles_87] at h
  obtain ⟨z87, h⟩ := h
  exact q_zret g hF z87 ⟨k0, r_shares, r_size, rfl, rfl, r_k0, r_r_shares, r_r_size, h⟩ dX3_byMiddles_87
def wp_X3_byMiddles_75 (Q : Int → (Int → Int) → Int → Prop) (r_shares : Int → Int) (r_size : Int) (l5 : Int) : Prop := ((¬ l5 = 0 → wp_X3_byMiddles_87 Q r_shares r_size 0) ∧
  (l5 = 0 → wp_X3_byMiddles_87 Q r_shares r_size 1))
set_option maxHeartbeats 4000000 in
set_option maxRecDepth 100000 in
theorem s_X3_byMiddles_75 {X : Cx} (g : Gd X cX3_byMiddles RX3 (some .boolean) 12) (hR : X.R = rmL 3 0 0) (hX3 : Nat) (aX3_shares : Nat) (Q : Int → (Int → Int) → Int → Prop) (hF : FQ X 0 0 (po_X3_byMiddles X.cI X.cJ hX3 aX3_shares Q)) : ∀ (r_shares : Int → Int) (r_size : Int) (l5 : Int), rr64 r_shares → r32 r_size → r64 l5 → wp_X3_byMiddles_75 Q r_shares r_size l5 → Wat X 0 0 75 [(5, .long (i64 l5))] [] [(hX3, .inr (3, [.ref aX3_shares, .int (i32 r_size)])), (aX3_shares, aL X.cJ 16 r_shares)] := by
  intro r_shares r_size l5 r_r_shares r_r_size r_l5 h
  rw [wp_X3_byMiddles_75] at h
  refine q_lload g 5 0 rfl dX3_byMiddles_75 ?_
  refine q_lconst g 0 0 rfl dX3_byMiddles_77 ?_
  refine q_lcmp_ne g (7) 86 r_l5 (r64_lit _ (by decide)) (by decide) dX3_byMiddles_78 dX3_byMiddles_79 (fun b78 => ?_) (fun b78 => ?_)
  · replace h := h.1 b78
    refine q_iconst g (0) dX3_byMiddles_86 ?_
    refine q_lv (lv' := []) [] rfl ?_
    exact s_X3_byMiddles_87 g hR hX3 aX3_shares Q hF r_shares r_size 0 r_r_shares r_r_size (r32_lit _ (by decide)) h
  replace h := h.2 b78
  refine q_iconst g (1) dX3_byMiddles_82 ?_
  refine q_goto g (4) 87 (by decide) dX3_byMiddles_83 ?_
  refine q_lv (lv' := []) [] rfl ?_
  exact s_X3_byMiddles_87 g hR hX3 aX3_shares Q hF r_shares r_size 1 r_r_shares r_r_size (r32_lit _ (by decide)) h
def wp_X3_byMiddles_9 (Q : Int → (Int → Int) → Int → Prop) : Nat → (Int → Int) → Int → Int → Int → Int → Prop
  | 0, _, _, _, _, _ => False
  | n + 1, r_shares, r_size, l5, l7, l9 => ((16 ≤ l9 → wp_X3_byMiddles_75 Q r_shares r_size l5) ∧
  (¬ (16 ≤ l9) → ((l5 ≤ 0 → wp_X3_byMiddles_75 Q r_shares r_size l5) ∧
  (¬ (l5 ≤ 0) → ((l7 ≤ 0 → wp_X3_byMiddles_75 Q r_shares r_size l5) ∧
  (¬ (l7 ≤ 0) → wp_X7_inverse (fun (x34 : Int) => (r64 (l7 * x34) ∧ wp_X3_add (fun (x45 : Int) (r_shares_45 : Int → Int) (r_size_45 : Int) => ((¬ x45 = 0 → (r64 (l5 * x34) ∧ r64 ((l5 * x34) - 1) ∧ 0 < l7 ∧ ∀ x63 : Int, x63 = (Int.tdiv ((l5 * x34) - 1) l7) → r32 (l9 + 1) ∧ wp_X3_byMiddles_9 Q n r_shares_45 r_size_45 x63 x34 (l9 + 1))) ∧
  (x45 = 0 → Q 0 r_shares_45 r_size_45))) r_shares r_size (l7 * x34))) l5 l7))))))
set_option maxHeartbeats 4000000 in
set_option maxRecDepth 100000 in
theorem s_X3_byMiddles_9 {X : Cx} (g : Gd X cX3_byMiddles RX3 (some .boolean) 12) (hR : X.R = rmL 3 0 0) (hX3 : Nat) (aX3_shares : Nat) (Q : Int → (Int → Int) → Int → Prop) (hF : FQ X 0 0 (po_X3_byMiddles X.cI X.cJ hX3 aX3_shares Q)) : ∀ (n : Nat) (r_shares : Int → Int) (r_size : Int) (l5 : Int) (l7 : Int) (l9 : Int), rr64 r_shares → r32 r_size → r64 l5 → r64 l7 → r32 l9 → wp_X3_byMiddles_9 Q n r_shares r_size l5 l7 l9 → Wat X 0 0 9 [(0, .ref hX3), (5, .long (i64 l5)), (7, .long (i64 l7)), (9, .int (i32 l9))] [] [(hX3, .inr (3, [.ref aX3_shares, .int (i32 r_size)])), (aX3_shares, aL X.cJ 16 r_shares)] := by
  intro n
  induction n with
  | zero => intro r_shares r_size l5 l7 l9 r_r_shares r_r_size r_l5 r_l7 r_l9 h; exact False.elim h
  | succ n ih =>
    intro r_shares r_size l5 l7 l9 r_r_shares r_r_size r_l5 r_l7 r_l9 h
    rw [wp_X3_byMiddles_9] at h
    refine q_iload g 9 3 rfl dX3_byMiddles_9 ?_
    refine q_bipush g (16) (by decide) (by decide) dX3_byMiddles_11 ?_
    refine q_icmp_ge g (62) 75 r_l9 (r32_lit _ (by decide)) (by decide) dX3_byMiddles_13 (fun b13 => ?_) (fun b13 => ?_)
    · replace h := h.1 b13
      refine q_lv (lv' := [(5, .long (i64 l5))]) [1] rfl ?_
      exact s_X3_byMiddles_75 g hR hX3 aX3_shares Q hF r_shares r_size l5 r_r_shares r_r_size r_l5 h
    replace h := h.2 b13
    refine q_lload g 5 1 rfl dX3_byMiddles_16 ?_
    refine q_lconst g 0 0 rfl dX3_byMiddles_18 ?_
    refine q_lcmp_le g (55) 75 r_l5 (r64_lit _ (by decide)) (by decide) dX3_byMiddles_19 dX3_byMiddles_20 (fun b19 => ?_) (fun b19 => ?_)
    · replace h := h.1 b19
      refine q_lv (lv' := [(5, .long (i64 l5))]) [1] rfl ?_
      exact s_X3_byMiddles_75 g hR hX3 aX3_shares Q hF r_shares r_size l5 r_r_shares r_r_size r_l5 h
    replace h := h.2 b19
    refine q_lload g 7 2 rfl dX3_byMiddles_23 ?_
    refine q_lconst g 0 0 rfl dX3_byMiddles_25 ?_
    refine q_lcmp_le g (48) 75 r_l7 (r64_lit _ (by decide)) (by decide) dX3_byMiddles_26 dX3_byMiddles_27 (fun b26 => ?_) (fun b26 => ?_)
    · replace h := h.1 b26
      refine q_lv (lv' := [(5, .long (i64 l5))]) [1] rfl ?_
      exact s_X3_byMiddles_75 g hR hX3 aX3_shares Q hF r_shares r_size l5 r_r_shares r_r_size r_l5 h
    replace h := h.2 b26
    refine q_lload g 5 1 rfl dX3_byMiddles_30 ?_
    refine q_lload g 7 2 rfl dX3_byMiddles_32 ?_
    refine q_callSN (lev := 2) (mc := 0) (ms := 0) (As := [.long (i64 l5), .long (i64 l7)]) (host := RX7) g 68 (c_X7_inverse X.l X.D X.cI X.cJ X.zt l5 l7 _ r_l5 r_l7 h) (wr := [(hX3, .inr (3, [.ref aX3_shares, .int (i32 r_size)])), (aX3_shares, aL X.cJ 16 r_shares)]) [] [0, 1] rfl rfl rfl (by decide) (by decide) (by decide) (List.mem_of_getElem? (i := 10) rfl) wT_X7_inverse wZ_X7 wC_X7_inverse 2 rfl (by decide +kernel) (by rw [hR]; exact ⟨by show 2 + 1 ≤ 3; omega, by show 8 + (19 + 11) + 100 * 2 ≤ 100 * 3; omega⟩) (by rw [hR]; exact ⟨Nat.le_refl _, Nat.le_refl _⟩) (Nat.le_of_ble_eq_true rfl) rfl dX3_byMiddles_34 (fun rv w1 hq => ?_)
    obtain ⟨x34, rfl, rfl, rx34, h⟩ := hq
    show Wat X 0 0 37 [(0, .ref hX3), (5, .long (i64 l5)), (7, .long (i64 l7)), (9, .int (i32 l9))] [.long (i64 x34)] [(hX3, .inr (3, [.ref aX3_shares, .int (i32 r_size)])), (aX3_shares, aL X.cJ 16 r_shares)]
    refine q_lstore (lv' := [(10, .long (i64 x34)), (0, .ref hX3), (5, .long (i64 l5)), (7, .long (i64 l7)), (9, .int (i32 l9))]) g 10   (by decide) rfl dX3_byMiddles_37 ?_
    refine q_aload_n g 0 1 rfl dX3_byMiddles_39 ?_
    refine q_lload g 7 3 rfl dX3_byMiddles_40 ?_
    refine q_lload g 10 0 rfl dX3_byMiddles_42 ?_
    obtain ⟨c44, h⟩ := h
    refine q_lmul g dX3_byMiddles_44 ?_
    refine q_callV (lev := 1) (mc := 0) (ms := 0) g 53 (c_X3_add X.l X.D X.cI X.cJ X.zt hX3 aX3_shares r_size r_shares (l7 * x34) _ r_r_shares r_r_size c44 h) (wr := []) [0, 1] [] rfl rfl rfl (by decide) (by decide) (by decide) (ci := 3) rfl rfl rfl wM_X3_53 wI_X3_add wS_X3_add wZ_X3 wC_X3_add 1 rfl (by decide +kernel) (by rw [hR]; exact ⟨by show 1 + 1 ≤ 3; omega, by show 8 + (3 + 11) + 100 * 1 ≤ 100 * 3; omega⟩) (by rw [hR]; exact ⟨Nat.le_refl _, Nat.le_refl _⟩) (Nat.le_of_ble_eq_true rfl) rfl dX3_byMiddles_45 (fun rv w1 hq => ?_)
    obtain ⟨x45, r_shares_45, r_size_45, rfl, rfl, rx45, rr_shares_45, rr_size_45, h⟩ := hq
    show Wat X 0 0 48 [(10, .long (i64 x34)), (0, .ref hX3), (5, .long (i64 l5)), (7, .long (i64 l7)), (9, .int (i32 l9))] [.int (i32 x45)] [(hX3, .inr (3, [.ref aX3_shares, .int (i32 r_size_45)])), (aX3_shares, aL X.cJ 16 r_shares_45)]
    refine q_if_ne g (5) 53 rx45 (by decide) dX3_byMiddles_48 (fun b48 => ?_) (fun b48 => ?_)
    · replace h := h.1 b48
      refine q_lload g 5 2 rfl dX3_byMiddles_53 ?_
      refine q_lload g 10 0 rfl dX3_byMiddles_55 ?_
      obtain ⟨c57, h⟩ := h
      refine q_lmul g dX3_byMiddles_57 ?_
      refine q_lconst g 1 1 rfl dX3_byMiddles_58 ?_
      obtain ⟨c59, h⟩ := h
      refine q_lsub g dX3_byMiddles_59 ?_
      refine q_lload g 7 3 rfl dX3_byMiddles_60 ?_
      obtain ⟨c62, h⟩ := h
      refine q_ldiv g c59 r_l7 (ne_of_pos c62) dX3_byMiddles_62 ?_
      refine q_topl (r64_tdiv c59 c62) (fun x63 ex63 rx63 => ?_)
      replace h := h x63 ex63
      refine q_lstore (lv' := [(5, .long (i64 x63)), (10, .long (i64 x34)), (0, .ref hX3), (7, .long (i64 l7)), (9, .int (i32 l9))]) g 5   (by decide) rfl dX3_byMiddles_63 ?_
      refine q_lload g 10 1 rfl dX3_byMiddles_65 ?_
      refine q_lstore (lv' := [(7, .long (i64 x34)), (5, .long (i64 x63)), (10, .long (i64 x34)), (0, .ref hX3), (9, .int (i32 l9))]) g 7   (by decide) rfl dX3_byMiddles_67 ?_
      obtain ⟨c69, h⟩ := h
      refine q_iinc (lv' := [(9, .int (i32 (l9 + 1))), (7, .long (i64 x34)), (5, .long (i64 x63)), (10, .long (i64 x34)), (0, .ref hX3)]) g 9 4 1 (by decide) rfl rfl dX3_byMiddles_69 ?_
      refine q_goto g (-63) 9 (by decide) dX3_byMiddles_72 ?_
      refine q_lv (lv' := [(0, .ref hX3), (5, .long (i64 x63)), (7, .long (i64 x34)), (9, .int (i32 (l9 + 1)))]) [4, 2, 1, 0] rfl ?_
      exact ih r_shares_45 r_size_45 x63 x34 (l9 + 1) rr_shares_45 rr_size_45 rx63 rx34 c69 h
    replace h := h.2 b48
    refine q_iconst g (0) dX3_byMiddles_51 ?_
    exact q_zret g hF (by decide) ⟨0, r_shares_45, r_size_45, rfl, rfl, (r32_lit _ (by decide)), rr_shares_45, rr_size_45, h⟩ dX3_byMiddles_52
def wp_X3_byMiddles (Q : Int → (Int → Int) → Int → Prop) (r_shares : Int → Int) (r_size : Int) (l1 : Int) (l3 : Int) : Prop := (∃ n0 : Nat, wp_X3_byMiddles_9 Q n0 r_shares r_size l1 l3 0)
set_option maxHeartbeats 4000000 in
set_option maxRecDepth 100000 in
theorem c_X3_byMiddles (l : Launch) (D : va_G) (cI cJ : ClassId) (zt : Nat) (hX3 : Nat) (aX3_shares : Nat) (r_size : Int) (r_shares : Int → Int) (l1 : Int) (l3 : Int) (Q : Int → (Int → Int) → Int → Prop) (r_r_shares : rr64 r_shares) (r_r_size : r32 r_size) (r_l1 : r64 l1) (r_l3 : r64 l3) (h : wp_X3_byMiddles Q r_shares r_size l1 l3) : Ct l D cI cJ zt yX3_byMiddles cX3_byMiddles 12 (some .boolean) 3 0 0 [.ref hX3, .long (i64 l1), .long (i64 l3)] [(hX3, .inr (3, [.ref aX3_shares, .int (i32 r_size)])), (aX3_shares, aL cJ 16 r_shares)] (po_X3_byMiddles cI cJ hX3 aX3_shares Q) := by
  refine ct_of (by decide +kernel) (Nat.le_of_ble_eq_true rfl) (fun X hl hDD hcI hcJ hzt hR hF hnm g => ?_)
  subst hl; subst hDD; subst hcI; subst hcJ; subst hzt
  show Wat X 0 0 0 [(0, .ref hX3), (1, .long (i64 l1)), (3, .long (i64 l3))] [] [(hX3, .inr (3, [.ref aX3_shares, .int (i32 r_size)])), (aX3_shares, aL X.cJ 16 r_shares)]
  replace g : Gd X cX3_byMiddles RX3 (some .boolean) 12 := g
  rw [wp_X3_byMiddles] at h
  refine q_lload_n g 1 1 rfl dX3_byMiddles_0 ?_
  refine q_lstore (lv' := [(5, .long (i64 l1)), (0, .ref hX3), (1, .long (i64 l1)), (3, .long (i64 l3))]) g 5   (by decide) rfl dX3_byMiddles_1 ?_
  refine q_lload_n g 3 3 rfl dX3_byMiddles_3 ?_
  refine q_lstore (lv' := [(7, .long (i64 l3)), (5, .long (i64 l1)), (0, .ref hX3), (1, .long (i64 l1)), (3, .long (i64 l3))]) g 7   (by decide) rfl dX3_byMiddles_4 ?_
  refine q_iconst g (0) dX3_byMiddles_6 ?_
  refine q_istore (lv' := [(9, .int (i32 0)), (7, .long (i64 l3)), (5, .long (i64 l1)), (0, .ref hX3), (1, .long (i64 l1)), (3, .long (i64 l3))]) g 9   (by decide) rfl dX3_byMiddles_7 ?_
  refine q_lv (lv' := [(0, .ref hX3), (5, .long (i64 l1)), (7, .long (i64 l3)), (9, .int (i32 0))]) [3, 2, 1, 0] rfl ?_
  obtain ⟨n0, h⟩ := h
  exact s_X3_byMiddles_9 g hR hX3 aX3_shares Q hF n0 r_shares r_size l1 l3 0 r_r_shares r_r_size r_l1 r_l3 (r32_lit _ (by decide)) h
theorem dX3_reachesEnd_0 : decode cX3_reachesEnd 0 = .ok (.iload_n 1, 1) := by decide +kernel
theorem dX3_reachesEnd_1 : decode cX3_reachesEnd 1 = .ok (.tableswitch 65 0 3 #[31, 40, 49, 57], 31) := by decide +kernel
theorem dX3_reachesEnd_32 : decode cX3_reachesEnd 32 = .ok (.aload_n 0, 1) := by decide +kernel
theorem dX3_reachesEnd_33 : decode cX3_reachesEnd 33 = .ok (.lload_n 2, 1) := by decide +kernel
theorem dX3_reachesEnd_34 : decode cX3_reachesEnd 34 = .ok (.lload 4, 2) := by decide +kernel
theorem dX3_reachesEnd_36 : decode cX3_reachesEnd 36 = .ok (.iconst 0, 1) := by decide +kernel
theorem dX3_reachesEnd_37 : decode cX3_reachesEnd 37 = .ok (.invokevirtual 26, 3) := by decide +kernel
theorem dX3_reachesEnd_40 : decode cX3_reachesEnd 40 = .ok (.ireturn, 1) := by decide +kernel
theorem dX3_reachesEnd_41 : decode cX3_reachesEnd 41 = .ok (.aload_n 0, 1) := by decide +kernel
theorem dX3_reachesEnd_42 : decode cX3_reachesEnd 42 = .ok (.lload_n 2, 1) := by decide +kernel
theorem dX3_reachesEnd_43 : decode cX3_reachesEnd 43 = .ok (.lload 4, 2) := by decide +kernel
theorem dX3_reachesEnd_45 : decode cX3_reachesEnd 45 = .ok (.iconst 1, 1) := by decide +kernel
theorem dX3_reachesEnd_46 : decode cX3_reachesEnd 46 = .ok (.invokevirtual 26, 3) := by decide +kernel
theorem dX3_reachesEnd_49 : decode cX3_reachesEnd 49 = .ok (.ireturn, 1) := by decide +kernel
theorem dX3_reachesEnd_50 : decode cX3_reachesEnd 50 = .ok (.aload_n 0, 1) := by decide +kernel
theorem dX3_reachesEnd_51 : decode cX3_reachesEnd 51 = .ok (.lload_n 2, 1) := by decide +kernel
theorem dX3_reachesEnd_52 : decode cX3_reachesEnd 52 = .ok (.lload 4, 2) := by decide +kernel
theorem dX3_reachesEnd_54 : decode cX3_reachesEnd 54 = .ok (.invokevirtual 30, 3) := by decide +kernel
theorem dX3_reachesEnd_57 : decode cX3_reachesEnd 57 = .ok (.ireturn, 1) := by decide +kernel
theorem dX3_reachesEnd_58 : decode cX3_reachesEnd 58 = .ok (.aload_n 0, 1) := by decide +kernel
theorem dX3_reachesEnd_59 : decode cX3_reachesEnd 59 = .ok (.lload_n 2, 1) := by decide +kernel
theorem dX3_reachesEnd_60 : decode cX3_reachesEnd 60 = .ok (.lload 4, 2) := by decide +kernel
theorem dX3_reachesEnd_62 : decode cX3_reachesEnd 62 = .ok (.invokevirtual 34, 3) := by decide +kernel
theorem dX3_reachesEnd_65 : decode cX3_reachesEnd 65 = .ok (.ireturn, 1) := by decide +kernel
theorem dX3_reachesEnd_66 : decode cX3_reachesEnd 66 = .ok (.aload_n 0, 1) := by decide +kernel
theorem dX3_reachesEnd_67 : decode cX3_reachesEnd 67 = .ok (.lload_n 2, 1) := by decide +kernel
theorem dX3_reachesEnd_68 : decode cX3_reachesEnd 68 = .ok (.lload 4, 2) := by decide +kernel
theorem dX3_reachesEnd_70 : decode cX3_reachesEnd 70 = .ok (.invokevirtual 37, 3) := by decide +kernel
theorem dX3_reachesEnd_73 : decode cX3_reachesEnd 73 = .ok (.ireturn, 1) := by decide +kernel
abbrev po_X3_reachesEnd (cI cJ : ClassId) (hX3 : Nat) (aX3_shares : Nat) (Q : Int → (Int → Int) → Int → Prop) : Option Value → va_W → Prop := fun rv w1 => ∃ (r0 : Int) (r_shares : Int → Int) (r_size : Int), rv = some (.int (i32 r0)) ∧ w1 = [(hX3, .inr (3, [.ref aX3_shares, .int (i32 r_size)])), (aX3_shares, aL cJ 16 r_shares)] ∧ r32 r0 ∧ rr64 r_shares ∧ r32 r_size ∧ Q r0 r_shares r_size
def wp_X3_reachesEnd (Q : Int → (Int → Int) → Int → Prop) (r_shares : Int → Int) (r_size : Int) (l1 : Int) (l2 : Int) (l4 : Int) : Prop := ((l1 < 0 ∨ 3 < l1 → wp_X3_byFactors (fun (x70 : Int) (r_shares_70 : Int → Int) (r_size_70 : Int) => ((x70 = 0 ∨ x70 = 1) ∧ Q x70 r_shares_70 r_size_70)) r_shares r_size l2 l4) ∧
  (l1 = 0 → wp_X3_byGreed (fun (x37 : Int) (r_shares_37 : Int → Int) (r_size_37 : Int) => ((x37 = 0 ∨ x37 = 1) ∧ Q x37 r_shares_37 r_size_37)) r_shares r_size l2 l4 0) ∧
  (l1 = 1 → wp_X3_byGreed (fun (x46 : Int) (r_shares_46 : Int → Int) (r_size_46 : Int) => ((x46 = 0 ∨ x46 = 1) ∧ Q x46 r_shares_46 r_size_46)) r_shares r_size l2 l4 1) ∧
  (l1 = 2 → wp_X3_byCutting (fun (x54 : Int) (r_shares_54 : Int → Int) (r_size_54 : Int) => ((x54 = 0 ∨ x54 = 1) ∧ Q x54 r_shares_54 r_size_54)) r_shares r_size l2 l4) ∧
  (l1 = 3 → wp_X3_byMiddles (fun (x62 : Int) (r_shares_62 : Int → Int) (r_size_62 : Int) => ((x62 = 0 ∨ x62 = 1) ∧ Q x62 r_shares_62 r_size_62)) r_shares r_size l2 l4))
set_option maxHeartbeats 4000000 in
set_option maxRecDepth 100000 in
theorem c_X3_reachesEnd (l : Launch) (D : va_G) (cI cJ : ClassId) (zt : Nat) (hX3 : Nat) (aX3_shares : Nat) (r_size : Int) (r_shares : Int → Int) (l1 : Int) (l2 : Int) (l4 : Int) (Q : Int → (Int → Int) → Int → Prop) (r_r_shares : rr64 r_shares) (r_r_size : r32 r_size) (r_l1 : r32 l1) (r_l2 : r64 l2) (r_l4 : r64 l4) (h : wp_X3_reachesEnd Q r_shares r_size l1 l2 l4) : Ct l D cI cJ zt yX3_reachesEnd cX3_reachesEnd 6 (some .boolean) 4 0 0 [.ref hX3, .int (i32 l1), .long (i64 l2), .long (i64 l4)] [(hX3, .inr (3, [.ref aX3_shares, .int (i32 r_size)])), (aX3_shares, aL cJ 16 r_shares)] (po_X3_reachesEnd cI cJ hX3 aX3_shares Q) := by
  refine ct_of (by decide +kernel) (Nat.le_of_ble_eq_true rfl) (fun X hl hDD hcI hcJ hzt hR hF hnm g => ?_)
  subst hl; subst hDD; subst hcI; subst hcJ; subst hzt
  show Wat X 0 0 0 [(0, .ref hX3), (1, .int (i32 l1)), (2, .long (i64 l2)), (4, .long (i64 l4))] [] [(hX3, .inr (3, [.ref aX3_shares, .int (i32 r_size)])), (aX3_shares, aL X.cJ 16 r_shares)]
  replace g : Gd X cX3_reachesEnd RX3 (some .boolean) 6 := g
  rw [wp_X3_reachesEnd] at h
  refine q_iload_n g 1 1 rfl dX3_reachesEnd_0 ?_
  by_cases bo1 : l1 < 0 ∨ 3 < l1
  · replace h := h.1 bo1
    refine q_tabOut g 66 r_l1 bo1 (by decide) dX3_reachesEnd_1 ?_
    refine q_aload_n g 0 0 rfl dX3_reachesEnd_66 ?_
    refine q_lload_n g 2 2 rfl dX3_reachesEnd_67 ?_
    refine q_lload g 4 3 rfl dX3_reachesEnd_68 ?_
    refine q_callV (lev := 2) (mc := 0) (ms := 0) g 37 (c_X3_byFactors X.l X.D X.cI X.cJ X.zt hX3 aX3_shares r_size r_shares l2 l4 _ r_r_shares r_r_size r_l2 r_l4 h) (wr := []) [0, 1] [] rfl rfl rfl (by decide) (by decide) (by decide) (ci := 3) rfl rfl rfl wM_X3_37 wI_X3_byFactors wS_X3_byFactors wZ_X3 wC_X3_byFactors 2 rfl (by decide +kernel) (by rw [hR]; exact ⟨by show 2 + 1 ≤ 4; omega, by show 8 + (12 + 11) + 100 * 2 ≤ 100 * 4; omega⟩) (by rw [hR]; exact ⟨Nat.le_refl _, Nat.le_refl _⟩) (Nat.le_of_ble_eq_true rfl) rfl dX3_reachesEnd_70 (fun rv w1 hq => ?_)
    obtain ⟨x70, r_shares_70, r_size_70, rfl, rfl, rx70, rr_shares_70, rr_size_70, h⟩ := hq
    show Wat X 0 0 73 [(0, .ref hX3), (1, .int (i32 l1)), (2, .long (i64 l2)), (4, .long (i64 l4))] [.int (i32 x70)] [(hX3, .inr (3, [.ref aX3_shares, .int (i32 r_size_70)])), (aX3_shares, aL X.cJ 16 r_shares_70)]
    obtain ⟨z73, h⟩ := h
    exact q_zret g hF z73 ⟨x70, r_shares_70, r_size_70, rfl, rfl, rx70, rr_shares_70, rr_size_70, h⟩ dX3_reachesEnd_73
  replace h := h.2
  have bs1 : l1 = 0 ∨ l1 = 1 ∨ l1 = 2 ∨ l1 = 3 := by omega
  rcases bs1 with bs1 | bs1
  · replace h := h.1 bs1
    refine q_tabIn g 32 0 r_l1 bs1 (by decide) (by decide) rfl (by decide) dX3_reachesEnd_1 ?_
    refine q_aload_n g 0 0 rfl dX3_reachesEnd_32 ?_
    refine q_lload_n g 2 2 rfl dX3_reachesEnd_33 ?_
    refine q_lload g 4 3 rfl dX3_reachesEnd_34 ?_
    refine q_iconst g (0) dX3_reachesEnd_36 ?_
    refine q_callV (lev := 3) (mc := 0) (ms := 0) g 26 (c_X3_byGreed X.l X.D X.cI X.cJ X.zt hX3 aX3_shares r_size r_shares l2 l4 0 _ r_r_shares r_r_size r_l2 r_l4 (r32_lit _ (by decide)) h) (wr := []) [0, 1] [] rfl rfl rfl (by decide) (by decide) (by decide) (ci := 3) rfl rfl rfl wM_X3_26 wI_X3_byGreed wS_X3_byGreed wZ_X3 wC_X3_byGreed 3 rfl (by decide +kernel) (by rw [hR]; exact ⟨by show 3 + 1 ≤ 4; omega, by show 8 + (23 + 11) + 100 * 3 ≤ 100 * 4; omega⟩) (by rw [hR]; exact ⟨Nat.le_refl _, Nat.le_refl _⟩) (Nat.le_of_ble_eq_true rfl) rfl dX3_reachesEnd_37 (fun rv w1 hq => ?_)
    obtain ⟨x37, r_shares_37, r_size_37, rfl, rfl, rx37, rr_shares_37, rr_size_37, h⟩ := hq
    show Wat X 0 0 40 [(0, .ref hX3), (1, .int (i32 l1)), (2, .long (i64 l2)), (4, .long (i64 l4))] [.int (i32 x37)] [(hX3, .inr (3, [.ref aX3_shares, .int (i32 r_size_37)])), (aX3_shares, aL X.cJ 16 r_shares_37)]
    obtain ⟨z40, h⟩ := h
    exact q_zret g hF z40 ⟨x37, r_shares_37, r_size_37, rfl, rfl, rx37, rr_shares_37, rr_size_37, h⟩ dX3_reachesEnd_40
  replace h := h.2
  rcases bs1 with bs1 | bs1
  · replace h := h.1 bs1
    refine q_tabIn g 41 1 r_l1 bs1 (by decide) (by decide) rfl (by decide) dX3_reachesEnd_1 ?_
    refine q_aload_n g 0 0 rfl dX3_reachesEnd_41 ?_
    refine q_lload_n g 2 2 rfl dX3_reachesEnd_42 ?_
    refine q_lload g 4 3 rfl dX3_reachesEnd_43 ?_
    refine q_iconst g (1) dX3_reachesEnd_45 ?_
    refine q_callV (lev := 3) (mc := 0) (ms := 0) g 26 (c_X3_byGreed X.l X.D X.cI X.cJ X.zt hX3 aX3_shares r_size r_shares l2 l4 1 _ r_r_shares r_r_size r_l2 r_l4 (r32_lit _ (by decide)) h) (wr := []) [0, 1] [] rfl rfl rfl (by decide) (by decide) (by decide) (ci := 3) rfl rfl rfl wM_X3_26 wI_X3_byGreed wS_X3_byGreed wZ_X3 wC_X3_byGreed 3 rfl (by decide +kernel) (by rw [hR]; exact ⟨by show 3 + 1 ≤ 4; omega, by show 8 + (23 + 11) + 100 * 3 ≤ 100 * 4; omega⟩) (by rw [hR]; exact ⟨Nat.le_refl _, Nat.le_refl _⟩) (Nat.le_of_ble_eq_true rfl) rfl dX3_reachesEnd_46 (fun rv w1 hq => ?_)
    obtain ⟨x46, r_shares_46, r_size_46, rfl, rfl, rx46, rr_shares_46, rr_size_46, h⟩ := hq
    show Wat X 0 0 49 [(0, .ref hX3), (1, .int (i32 l1)), (2, .long (i64 l2)), (4, .long (i64 l4))] [.int (i32 x46)] [(hX3, .inr (3, [.ref aX3_shares, .int (i32 r_size_46)])), (aX3_shares, aL X.cJ 16 r_shares_46)]
    obtain ⟨z49, h⟩ := h
    exact q_zret g hF z49 ⟨x46, r_shares_46, r_size_46, rfl, rfl, rx46, rr_shares_46, rr_size_46, h⟩ dX3_reachesEnd_49
  replace h := h.2
  rcases bs1 with bs1 | bs1
  · replace h := h.1 bs1
    refine q_tabIn g 50 2 r_l1 bs1 (by decide) (by decide) rfl (by decide) dX3_reachesEnd_1 ?_
    refine q_aload_n g 0 0 rfl dX3_reachesEnd_50 ?_
    refine q_lload_n g 2 2 rfl dX3_reachesEnd_51 ?_
    refine q_lload g 4 3 rfl dX3_reachesEnd_52 ?_
    refine q_callV (lev := 3) (mc := 0) (ms := 0) g 30 (c_X3_byCutting X.l X.D X.cI X.cJ X.zt hX3 aX3_shares r_size r_shares l2 l4 _ r_r_shares r_r_size r_l2 r_l4 h) (wr := []) [0, 1] [] rfl rfl rfl (by decide) (by decide) (by decide) (ci := 3) rfl rfl rfl wM_X3_30 wI_X3_byCutting wS_X3_byCutting wZ_X3 wC_X3_byCutting 2 rfl (by decide +kernel) (by rw [hR]; exact ⟨by show 3 + 1 ≤ 4; omega, by show 8 + (9 + 11) + 100 * 3 ≤ 100 * 4; omega⟩) (by rw [hR]; exact ⟨Nat.le_refl _, Nat.le_refl _⟩) (Nat.le_of_ble_eq_true rfl) rfl dX3_reachesEnd_54 (fun rv w1 hq => ?_)
    obtain ⟨x54, r_shares_54, r_size_54, rfl, rfl, rx54, rr_shares_54, rr_size_54, h⟩ := hq
    show Wat X 0 0 57 [(0, .ref hX3), (1, .int (i32 l1)), (2, .long (i64 l2)), (4, .long (i64 l4))] [.int (i32 x54)] [(hX3, .inr (3, [.ref aX3_shares, .int (i32 r_size_54)])), (aX3_shares, aL X.cJ 16 r_shares_54)]
    obtain ⟨z57, h⟩ := h
    exact q_zret g hF z57 ⟨x54, r_shares_54, r_size_54, rfl, rfl, rx54, rr_shares_54, rr_size_54, h⟩ dX3_reachesEnd_57
  replace h := h.2
  replace h := h bs1
  refine q_tabIn g 58 3 r_l1 bs1 (by decide) (by decide) rfl (by decide) dX3_reachesEnd_1 ?_
  refine q_aload_n g 0 0 rfl dX3_reachesEnd_58 ?_
  refine q_lload_n g 2 2 rfl dX3_reachesEnd_59 ?_
  refine q_lload g 4 3 rfl dX3_reachesEnd_60 ?_
  refine q_callV (lev := 3) (mc := 0) (ms := 0) g 34 (c_X3_byMiddles X.l X.D X.cI X.cJ X.zt hX3 aX3_shares r_size r_shares l2 l4 _ r_r_shares r_r_size r_l2 r_l4 h) (wr := []) [0, 1] [] rfl rfl rfl (by decide) (by decide) (by decide) (ci := 3) rfl rfl rfl wM_X3_34 wI_X3_byMiddles wS_X3_byMiddles wZ_X3 wC_X3_byMiddles 2 rfl (by decide +kernel) (by rw [hR]; exact ⟨by show 3 + 1 ≤ 4; omega, by show 8 + (12 + 11) + 100 * 3 ≤ 100 * 4; omega⟩) (by rw [hR]; exact ⟨Nat.le_refl _, Nat.le_refl _⟩) (Nat.le_of_ble_eq_true rfl) rfl dX3_reachesEnd_62 (fun rv w1 hq => ?_)
  obtain ⟨x62, r_shares_62, r_size_62, rfl, rfl, rx62, rr_shares_62, rr_size_62, h⟩ := hq
  show Wat X 0 0 65 [(0, .ref hX3), (1, .int (i32 l1)), (2, .long (i64 l2)), (4, .long (i64 l4))] [.int (i32 x62)] [(hX3, .inr (3, [.ref aX3_shares, .int (i32 r_size_62)])), (aX3_shares, aL X.cJ 16 r_shares_62)]
  obtain ⟨z65, h⟩ := h
  exact q_zret g hF z65 ⟨x62, r_shares_62, r_size_62, rfl, rfl, rx62, rr_shares_62, rr_size_62, h⟩ dX3_reachesEnd_65
theorem dX3_walk_0 : decode cX3_walk 0 = .ok (.aload_n 0, 1) := by decide +kernel
theorem dX3_walk_1 : decode cX3_walk 1 = .ok (.iconst 0, 1) := by decide +kernel
theorem dX3_walk_2 : decode cX3_walk 2 = .ok (.putfield 15, 3) := by decide +kernel
theorem dX3_walk_5 : decode cX3_walk 5 = .ok (.aload_n 0, 1) := by decide +kernel
theorem dX3_walk_6 : decode cX3_walk 6 = .ok (.iload_n 1, 1) := by decide +kernel
theorem dX3_walk_7 : decode cX3_walk 7 = .ok (.lload_n 2, 1) := by decide +kernel
theorem dX3_walk_8 : decode cX3_walk 8 = .ok (.lload 4, 2) := by decide +kernel
theorem dX3_walk_10 : decode cX3_walk 10 = .ok (.invokevirtual 19, 3) := by decide +kernel
theorem dX3_walk_13 : decode cX3_walk 13 = .ok (.ifCond .ne 6, 3) := by decide +kernel
theorem dX3_walk_16 : decode cX3_walk 16 = .ok (.bipush (-5), 2) := by decide +kernel
theorem dX3_walk_18 : decode cX3_walk 18 = .ok (.ireturn, 1) := by decide +kernel
theorem dX3_walk_19 : decode cX3_walk 19 = .ok (.aload_n 0, 1) := by decide +kernel
theorem dX3_walk_20 : decode cX3_walk 20 = .ok (.invokevirtual 23, 3) := by decide +kernel
theorem dX3_walk_23 : decode cX3_walk 23 = .ok (.aload_n 0, 1) := by decide +kernel
theorem dX3_walk_24 : decode cX3_walk 24 = .ok (.getfield 15, 3) := by decide +kernel
theorem dX3_walk_27 : decode cX3_walk 27 = .ok (.ireturn, 1) := by decide +kernel
abbrev po_X3_walk (cI cJ : ClassId) (hX3 : Nat) (aX3_shares : Nat) (Q : Int → (Int → Int) → Int → Prop) : Option Value → va_W → Prop := fun rv w1 => ∃ (r0 : Int) (r_shares : Int → Int) (r_size : Int), rv = some (.int (i32 r0)) ∧ w1 = [(hX3, .inr (3, [.ref aX3_shares, .int (i32 r_size)])), (aX3_shares, aL cJ 16 r_shares)] ∧ r32 r0 ∧ rr64 r_shares ∧ r32 r_size ∧ Q r0 r_shares r_size
def wp_X3_walk (Q : Int → (Int → Int) → Int → Prop) (r_shares : Int → Int) (r_size : Int) (l1 : Int) (l2 : Int) (l4 : Int) : Prop := wp_X3_reachesEnd (fun (x10 : Int) (r_shares_10 : Int → Int) (r_size_10 : Int) => ((¬ x10 = 0 → wp_X3_putInOrder (fun (r_shares_20 : Int → Int) => Q r_size_10 r_shares_20 r_size_10) r_shares_10 r_size_10) ∧
  (x10 = 0 → Q (-5) r_shares_10 r_size_10))) r_shares 0 l1 l2 l4
set_option maxHeartbeats 4000000 in
set_option maxRecDepth 100000 in
theorem c_X3_walk (l : Launch) (D : va_G) (cI cJ : ClassId) (zt : Nat) (hX3 : Nat) (aX3_shares : Nat) (r_size : Int) (r_shares : Int → Int) (l1 : Int) (l2 : Int) (l4 : Int) (Q : Int → (Int → Int) → Int → Prop) (r_r_shares : rr64 r_shares) (r_r_size : r32 r_size) (r_l1 : r32 l1) (r_l2 : r64 l2) (r_l4 : r64 l4) (h : wp_X3_walk Q r_shares r_size l1 l2 l4) : Ct l D cI cJ zt yX3_walk cX3_walk 6 (some .int) 5 0 0 [.ref hX3, .int (i32 l1), .long (i64 l2), .long (i64 l4)] [(hX3, .inr (3, [.ref aX3_shares, .int (i32 r_size)])), (aX3_shares, aL cJ 16 r_shares)] (po_X3_walk cI cJ hX3 aX3_shares Q) := by
  refine ct_of (by decide +kernel) (Nat.le_of_ble_eq_true rfl) (fun X hl hDD hcI hcJ hzt hR hF hnm g => ?_)
  subst hl; subst hDD; subst hcI; subst hcJ; subst hzt
  show Wat X 0 0 0 [(0, .ref hX3), (1, .int (i32 l1)), (2, .long (i64 l2)), (4, .long (i64 l4))] [] [(hX3, .inr (3, [.ref aX3_shares, .int (i32 r_size)])), (aX3_shares, aL X.cJ 16 r_shares)]
  replace g : Gd X cX3_walk RX3 (some .int) 6 := g
  rw [wp_X3_walk] at h
  refine q_aload_n g 0 0 rfl dX3_walk_0 ?_
  refine q_iconst g (0) dX3_walk_1 ?_
  refine q_put (C := RX3) (T := TX3) (N := 2) (ty := .int) (ws' := [(hX3, .inr (3, [.ref aX3_shares, .int (i32 0)])), (aX3_shares, aL X.cJ 16 r_shares)]) g 15 inX3 tyX3_ok nmX3 0 1 rfl rfl (by decide) wF_X3_15 rfl rfl rfl rfl (Nat.le_of_ble_eq_true rfl) rfl dX3_walk_2 ?_
  refine q_aload_n g 0 0 rfl dX3_walk_5 ?_
  refine q_iload_n g 1 1 rfl dX3_walk_6 ?_
  refine q_lload_n g 2 2 rfl dX3_walk_7 ?_
  refine q_lload g 4 3 rfl dX3_walk_8 ?_
  refine q_callV (lev := 4) (mc := 0) (ms := 0) g 19 (c_X3_reachesEnd X.l X.D X.cI X.cJ X.zt hX3 aX3_shares 0 r_shares l1 l2 l4 _ r_r_shares (r32_lit _ (by decide)) r_l1 r_l2 r_l4 h) (wr := []) [0, 1] [] rfl rfl rfl (by decide) (by decide) (by decide) (ci := 3) rfl rfl rfl wM_X3_19 wI_X3_reachesEnd wS_X3_reachesEnd wZ_X3 wC_X3_reachesEnd 3 rfl (by decide +kernel) (by rw [hR]; exact ⟨by show 4 + 1 ≤ 5; omega, by show 8 + (6 + 11) + 100 * 4 ≤ 100 * 5; omega⟩) (by rw [hR]; exact ⟨Nat.le_refl _, Nat.le_refl _⟩) (Nat.le_of_ble_eq_true rfl) rfl dX3_walk_10 (fun rv w1 hq => ?_)
  obtain ⟨x10, r_shares_10, r_size_10, rfl, rfl, rx10, rr_shares_10, rr_size_10, h⟩ := hq
  show Wat X 0 0 13 [(0, .ref hX3), (1, .int (i32 l1)), (2, .long (i64 l2)), (4, .long (i64 l4))] [.int (i32 x10)] [(hX3, .inr (3, [.ref aX3_shares, .int (i32 r_size_10)])), (aX3_shares, aL X.cJ 16 r_shares_10)]
  refine q_if_ne g (6) 19 rx10 (by decide) dX3_walk_13 (fun b13 => ?_) (fun b13 => ?_)
  · replace h := h.1 b13
    refine q_aload_n g 0 0 rfl dX3_walk_19 ?_
    refine q_callV (lev := 1) (mc := 0) (ms := 0) g 23 (c_X3_putInOrder X.l X.D X.cI X.cJ X.zt hX3 aX3_shares r_size_10 r_shares_10 _ rr_shares_10 rr_size_10 h) (wr := []) [0, 1] [] rfl rfl rfl (by decide) (by decide) (by decide) (ci := 3) rfl rfl rfl wM_X3_23 wI_X3_putInOrder wS_X3_putInOrder wZ_X3 wC_X3_putInOrder 0 rfl (by decide +kernel) (by rw [hR]; exact ⟨by show 1 + 1 ≤ 5; omega, by show 8 + (5 + 11) + 100 * 1 ≤ 100 * 5; omega⟩) (by rw [hR]; exact ⟨Nat.le_refl _, Nat.le_refl _⟩) (Nat.le_of_ble_eq_true rfl) rfl dX3_walk_20 (fun rv w1 hq => ?_)
    obtain ⟨r_shares_20, rfl, rfl, rr_shares_20, h⟩ := hq
    show Wat X 0 0 23 [(0, .ref hX3), (1, .int (i32 l1)), (2, .long (i64 l2)), (4, .long (i64 l4))] [] [(hX3, .inr (3, [.ref aX3_shares, .int (i32 r_size_10)])), (aX3_shares, aL X.cJ 16 r_shares_20)]
    refine q_aload_n g 0 0 rfl dX3_walk_23 ?_
    refine q_get (C := RX3) (T := TX3) (N := 2) g 15 inX3 0 1 rfl rfl (by decide) wF_X3_15 rfl dX3_walk_24 ?_
    exact q_iret g hF ⟨r_size_10, r_shares_20, r_size_10, rfl, rfl, rr_size_10, rr_shares_20, rr_size_10, h⟩ dX3_walk_27
  replace h := h.2 b13
  refine q_bipush g (-5) (by decide) (by decide) dX3_walk_16 ?_
  exact q_iret g hF ⟨(-5), r_shares_10, r_size_10, rfl, rfl, (r32_lit _ (by decide)), rr_shares_10, rr_size_10, h⟩ dX3_walk_18
