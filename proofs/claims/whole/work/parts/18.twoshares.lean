theorem wC_X5_addDivisor : Cond.code yX5_addDivisor cX5_addDivisor 4 none ∈ TT := List.mem_filter.mpr ⟨List.mem_append_right _ (List.mem_of_getElem? (i := 654) (by decide +kernel)), rfl⟩
theorem wC_X5_countPairsBehind : Cond.code yX5_countPairsBehind cX5_countPairsBehind 7 (some .int) ∈ TT := List.mem_filter.mpr ⟨List.mem_append_right _ (List.mem_of_getElem? (i := 646) (by decide +kernel)), rfl⟩
theorem wC_X5_findPairs : Cond.code yX5_findPairs cX5_findPairs 4 none ∈ TT := List.mem_filter.mpr ⟨List.mem_append_right _ (List.mem_of_getElem? (i := 619) (by decide +kernel)), rfl⟩
theorem wC_X5_lesser : Cond.code yX5_lesser cX5_lesser 2 (some .long) ∈ TT := List.mem_filter.mpr ⟨List.mem_append_right _ (List.mem_of_getElem? (i := 628) (by decide +kernel)), rfl⟩
theorem wC_X5_listSquareDivisors : Cond.code yX5_listSquareDivisors cX5_listSquareDivisors 6 none ∈ TT := List.mem_filter.mpr ⟨List.mem_append_right _ (List.mem_of_getElem? (i := 650) (by decide +kernel)), rfl⟩
theorem wC_X5_multiplyDivisors : Cond.code yX5_multiplyDivisors cX5_multiplyDivisors 8 none ∈ TT := List.mem_filter.mpr ⟨List.mem_append_right _ (List.mem_of_getElem? (i := 658) (by decide +kernel)), rfl⟩
theorem wF_X5_13 : Cond.fieldLink RX5 13 (TX5 1).1 (TX5 1).2.1 (TX5 1).2.2.1 ∈ TT := List.mem_filter.mpr ⟨List.mem_append_right _ (List.mem_of_getElem? (i := 191) (by decide +kernel)), rfl⟩
theorem wF_X5_16 : Cond.fieldLink RX5 16 (TX5 4).1 (TX5 4).2.1 (TX5 4).2.2.1 ∈ TT := List.mem_filter.mpr ⟨List.mem_append_right _ (List.mem_of_getElem? (i := 194) (by decide +kernel)), rfl⟩
theorem wF_X5_20 : Cond.fieldLink RX5 20 (TX5 5).1 (TX5 5).2.1 (TX5 5).2.2.1 ∈ TT := List.mem_filter.mpr ⟨List.mem_append_right _ (List.mem_of_getElem? (i := 195) (by decide +kernel)), rfl⟩
theorem wF_X5_23 : Cond.fieldLink RX5 23 (TX5 3).1 (TX5 3).2.1 (TX5 3).2.2.1 ∈ TT := List.mem_filter.mpr ⟨List.mem_append_right _ (List.mem_of_getElem? (i := 193) (by decide +kernel)), rfl⟩
theorem wF_X5_47 : Cond.fieldLink RX5 47 (TX5 2).1 (TX5 2).2.1 (TX5 2).2.2.1 ∈ TT := List.mem_filter.mpr ⟨List.mem_append_right _ (List.mem_of_getElem? (i := 192) (by decide +kernel)), rfl⟩
theorem wF_X5_9 : Cond.fieldLink RX5 9 (TX5 0).1 (TX5 0).2.1 (TX5 0).2.2.1 ∈ TT := List.mem_filter.mpr ⟨List.mem_append_right _ (List.mem_of_getElem? (i := 190) (by decide +kernel)), rfl⟩
theorem wI_X5_addDivisor : Cond.instanceMethod yX5_addDivisor ∈ TT := List.mem_filter.mpr ⟨List.mem_append_right _ (List.mem_of_getElem? (i := 653) (by decide +kernel)), rfl⟩
theorem wI_X5_countPairsBehind : Cond.instanceMethod yX5_countPairsBehind ∈ TT := List.mem_filter.mpr ⟨List.mem_append_right _ (List.mem_of_getElem? (i := 645) (by decide +kernel)), rfl⟩
theorem wI_X5_findPairs : Cond.instanceMethod yX5_findPairs ∈ TT := List.mem_filter.mpr ⟨List.mem_append_right _ (List.mem_of_getElem? (i := 618) (by decide +kernel)), rfl⟩
theorem wI_X5_lesser : Cond.instanceMethod yX5_lesser ∈ TT := List.mem_filter.mpr ⟨List.mem_append_right _ (List.mem_of_getElem? (i := 626) (by decide +kernel)), rfl⟩
theorem wI_X5_listSquareDivisors : Cond.instanceMethod yX5_listSquareDivisors ∈ TT := List.mem_filter.mpr ⟨List.mem_append_right _ (List.mem_of_getElem? (i := 649) (by decide +kernel)), rfl⟩
theorem wI_X5_multiplyDivisors : Cond.instanceMethod yX5_multiplyDivisors ∈ TT := List.mem_filter.mpr ⟨List.mem_append_right _ (List.mem_of_getElem? (i := 657) (by decide +kernel)), rfl⟩
theorem wM_X5_26 : Cond.methodLink RX5 26 yX5_findPairs ∈ TT := List.mem_filter.mpr ⟨List.mem_append_right _ (List.mem_of_getElem? (i := 616) (by decide +kernel)), rfl⟩
theorem wM_X5_30 : Cond.methodLink RX5 30 yX5_lesser ∈ TT := List.mem_filter.mpr ⟨List.mem_append_right _ (List.mem_of_getElem? (i := 633) (by decide +kernel)), rfl⟩
theorem wM_X5_39 : Cond.methodLink RX5 39 yX5_countPairsBehind ∈ TT := List.mem_filter.mpr ⟨List.mem_append_right _ (List.mem_of_getElem? (i := 643) (by decide +kernel)), rfl⟩
theorem wM_X5_43 : Cond.methodLink RX5 43 yX5_listSquareDivisors ∈ TT := List.mem_filter.mpr ⟨List.mem_append_right _ (List.mem_of_getElem? (i := 647) (by decide +kernel)), rfl⟩
theorem wM_X5_50 : Cond.methodLink RX5 50 yX5_addDivisor ∈ TT := List.mem_filter.mpr ⟨List.mem_append_right _ (List.mem_of_getElem? (i := 651) (by decide +kernel)), rfl⟩
theorem wM_X5_54 : Cond.methodLink RX5 54 yX5_multiplyDivisors ∈ TT := List.mem_filter.mpr ⟨List.mem_append_right _ (List.mem_of_getElem? (i := 655) (by decide +kernel)), rfl⟩
theorem wS_X5_addDivisor : Cond.selects yX5_addDivisor.cls yX5_addDivisor yX5_addDivisor ∈ TT := List.mem_filter.mpr ⟨List.mem_append_left _ (List.mem_of_getElem? (i := 40) (by decide +kernel)), rfl⟩
theorem wS_X5_countPairsBehind : Cond.selects yX5_countPairsBehind.cls yX5_countPairsBehind yX5_countPairsBehind ∈ TT := List.mem_filter.mpr ⟨List.mem_append_left _ (List.mem_of_getElem? (i := 38) (by decide +kernel)), rfl⟩
theorem wS_X5_findPairs : Cond.selects yX5_findPairs.cls yX5_findPairs yX5_findPairs ∈ TT := List.mem_filter.mpr ⟨List.mem_append_left _ (List.mem_of_getElem? (i := 37) (by decide +kernel)), rfl⟩
theorem wS_X5_lesser : Cond.selects yX5_lesser.cls yX5_lesser yX5_lesser ∈ TT := List.mem_filter.mpr ⟨List.mem_append_right _ (List.mem_of_getElem? (i := 627) (by decide +kernel)), rfl⟩
theorem wS_X5_listSquareDivisors : Cond.selects yX5_listSquareDivisors.cls yX5_listSquareDivisors yX5_listSquareDivisors ∈ TT := List.mem_filter.mpr ⟨List.mem_append_left _ (List.mem_of_getElem? (i := 39) (by decide +kernel)), rfl⟩
theorem wS_X5_multiplyDivisors : Cond.selects yX5_multiplyDivisors.cls yX5_multiplyDivisors yX5_multiplyDivisors ∈ TT := List.mem_filter.mpr ⟨List.mem_append_left _ (List.mem_of_getElem? (i := 41) (by decide +kernel)), rfl⟩
theorem wZ_X5 : Cond.initialized RX5 ∈ TT := List.mem_filter.mpr ⟨List.mem_append_right _ (List.mem_of_getElem? (i := 8) (by decide +kernel)), rfl⟩
theorem dX5_addDivisor_0 : decode cX5_addDivisor 0 = .ok (.lload_n 1, 1) := by decide +kernel
theorem dX5_addDivisor_1 : decode cX5_addDivisor 1 = .ok (.iload_n 3, 1) := by decide +kernel
theorem dX5_addDivisor_2 : decode cX5_addDivisor 2 = .ok (.i2l, 1) := by decide +kernel
theorem dX5_addDivisor_3 : decode cX5_addDivisor 3 = .ok (.lcmp, 1) := by decide +kernel
theorem dX5_addDivisor_4 : decode cX5_addDivisor 4 = .ok (.ifCond .ge 36, 3) := by decide +kernel
theorem dX5_addDivisor_7 : decode cX5_addDivisor 7 = .ok (.aload_n 0, 1) := by decide +kernel
theorem dX5_addDivisor_8 : decode cX5_addDivisor 8 = .ok (.getfield 47, 3) := by decide +kernel
theorem dX5_addDivisor_11 : decode cX5_addDivisor 11 = .ok (.aload_n 0, 1) := by decide +kernel
theorem dX5_addDivisor_12 : decode cX5_addDivisor 12 = .ok (.getfield 13, 3) := by decide +kernel
theorem dX5_addDivisor_15 : decode cX5_addDivisor 15 = .ok (.arraylength, 1) := by decide +kernel
theorem dX5_addDivisor_16 : decode cX5_addDivisor 16 = .ok (.if_icmp .ge 24, 3) := by decide +kernel
theorem dX5_addDivisor_19 : decode cX5_addDivisor 19 = .ok (.aload_n 0, 1) := by decide +kernel
theorem dX5_addDivisor_20 : decode cX5_addDivisor 20 = .ok (.getfield 13, 3) := by decide +kernel
theorem dX5_addDivisor_23 : decode cX5_addDivisor 23 = .ok (.aload_n 0, 1) := by decide +kernel
theorem dX5_addDivisor_24 : decode cX5_addDivisor 24 = .ok (.getfield 47, 3) := by decide +kernel
theorem dX5_addDivisor_27 : decode cX5_addDivisor 27 = .ok (.lload_n 1, 1) := by decide +kernel
theorem dX5_addDivisor_28 : decode cX5_addDivisor 28 = .ok (.l2i, 1) := by decide +kernel
theorem dX5_addDivisor_29 : decode cX5_addDivisor 29 = .ok (.iastore, 1) := by decide +kernel
theorem dX5_addDivisor_30 : decode cX5_addDivisor 30 = .ok (.aload_n 0, 1) := by decide +kernel
theorem dX5_addDivisor_31 : decode cX5_addDivisor 31 = .ok (.dup, 1) := by decide +kernel
theorem dX5_addDivisor_32 : decode cX5_addDivisor 32 = .ok (.getfield 47, 3) := by decide +kernel
theorem dX5_addDivisor_35 : decode cX5_addDivisor 35 = .ok (.iconst 1, 1) := by decide +kernel
theorem dX5_addDivisor_36 : decode cX5_addDivisor 36 = .ok (.iadd, 1) := by decide +kernel
theorem dX5_addDivisor_37 : decode cX5_addDivisor 37 = .ok (.putfield 47, 3) := by decide +kernel
theorem dX5_addDivisor_40 : decode cX5_addDivisor 40 = .ok (.return_, 1) := by decide +kernel
abbrev po_X5_addDivisor (cI cJ : ClassId) (hX5 : Nat) (aX5_lesser : Nat) (aX5_divisors : Nat) (t_size : Int) (t_listedP : Int) (t_listedQ : Int) (Q : (Int → Int) → Int → Prop) : Option Value → va_W → Prop := fun rv w1 => ∃ (t_divisors : Int → Int) (t_divisorsSize : Int), rv = none ∧ w1 = [(hX5, .inr (4, [.ref aX5_lesser, .ref aX5_divisors, .int (i32 t_divisorsSize), .int (i32 t_size), .int (i32 t_listedP), .int (i32 t_listedQ)])), (aX5_divisors, aI cI 1100 t_divisors)] ∧ rr32 t_divisors ∧ r32 t_divisorsSize ∧ Q t_divisors t_divisorsSize
def wp_X5_addDivisor_40 (Q : (Int → Int) → Int → Prop) (t_divisors : Int → Int) (t_divisorsSize : Int) : Prop := Q t_divisors t_divisorsSize
set_option maxHeartbeats 4000000 in
set_option maxRecDepth 100000 in
theorem s_X5_addDivisor_40 {X : Cx} (g : Gd X cX5_addDivisor RX5 none 4) (hR : X.R = rmL 1 0 0) (hX5 : Nat) (aX5_lesser : Nat) (aX5_divisors : Nat) (t_size : Int) (t_listedP : Int) (t_listedQ : Int) (Q : (Int → Int) → Int → Prop) (hF : FQ X 0 0 (po_X5_addDivisor X.cI X.cJ hX5 aX5_lesser aX5_divisors t_size t_listedP t_listedQ Q)) : ∀ (t_divisors : Int → Int) (t_divisorsSize : Int), rr32 t_divisors → r32 t_divisorsSize → wp_X5_addDivisor_40 Q t_divisors t_divisorsSize → Wat X 0 0 40 [] [] [(hX5, .inr (4, [.ref aX5_lesser, .ref aX5_divisors, .int (i32 t_divisorsSize), .int (i32 t_size), .int (i32 t_listedP), .int (i32 t_listedQ)])), (aX5_divisors, aI X.cI 1100 t_divisors)] := by
  intro t_divisors t_divisorsSize r_t_divisors r_t_divisorsSize h
  rw [wp_X5_addDivisor_40] at h
  exact q_vret g hF ⟨t_divisors, t_divisorsSize, rfl, rfl, r_t_divisors, r_t_divisorsSize, h⟩ dX5_addDivisor_40
def wp_X5_addDivisor (Q : (Int → Int) → Int → Prop) (t_divisors : Int → Int) (t_divisorsSize : Int) (l1 : Int) (l3 : Int) : Prop := ((l3 ≤ l1 → wp_X5_addDivisor_40 Q t_divisors t_divisorsSize) ∧
  (¬ (l3 ≤ l1) → ((1100 ≤ t_divisorsSize → wp_X5_addDivisor_40 Q t_divisors t_divisorsSize) ∧
  (¬ (1100 ≤ t_divisorsSize) → (r32 l1 ∧ 0 ≤ t_divisorsSize ∧ t_divisorsSize < 1100 ∧ r32 (t_divisorsSize + 1) ∧ ∀ x37 : Int, x37 = (t_divisorsSize + 1) → wp_X5_addDivisor_40 Q (ups t_divisors t_divisorsSize l1) x37)))))
set_option maxHeartbeats 4000000 in
set_option maxRecDepth 100000 in
theorem c_X5_addDivisor (l : Launch) (D : va_G) (cI cJ : ClassId) (zt : Nat) (hX5 : Nat) (aX5_lesser : Nat) (aX5_divisors : Nat) (t_divisorsSize : Int) (t_size : Int) (t_listedP : Int) (t_listedQ : Int) (t_divisors : Int → Int) (l1 : Int) (l3 : Int) (Q : (Int → Int) → Int → Prop) (r_t_divisors : rr32 t_divisors) (r_t_divisorsSize : r32 t_divisorsSize) (r_l1 : r64 l1) (r_l3 : r32 l3) (h : wp_X5_addDivisor Q t_divisors t_divisorsSize l1 l3) : Ct l D cI cJ zt yX5_addDivisor cX5_addDivisor 4 none 1 0 0 [.ref hX5, .long (i64 l1), .int (i32 l3)] [(hX5, .inr (4, [.ref aX5_lesser, .ref aX5_divisors, .int (i32 t_divisorsSize), .int (i32 t_size), .int (i32 t_listedP), .int (i32 t_listedQ)])), (aX5_divisors, aI cI 1100 t_divisors)] (po_X5_addDivisor cI cJ hX5 aX5_lesser aX5_divisors t_size t_listedP t_listedQ Q) := by
  refine ct_of (by decide +kernel) (Nat.le_of_ble_eq_true rfl) (fun X hl hDD hcI hcJ hzt hR hF hnm g => ?_)
  subst hl; subst hDD; subst hcI; subst hcJ; subst hzt
  show Wat X 0 0 0 [(0, .ref hX5), (1, .long (i64 l1)), (3, .int (i32 l3))] [] [(hX5, .inr (4, [.ref aX5_lesser, .ref aX5_divisors, .int (i32 t_divisorsSize), .int (i32 t_size), .int (i32 t_listedP), .int (i32 t_listedQ)])), (aX5_divisors, aI X.cI 1100 t_divisors)]
  replace g : Gd X cX5_addDivisor RX5 none 4 := g
  rw [wp_X5_addDivisor] at h
  refine q_lload_n g 1 1 rfl dX5_addDivisor_0 ?_
  refine q_iload_n g 3 2 rfl dX5_addDivisor_1 ?_
  refine q_i2l g r_l3 dX5_addDivisor_2 ?_
  refine q_lcmp_ge g (36) 40 r_l1 (r32_64 r_l3) (by decide) dX5_addDivisor_3 dX5_addDivisor_4 (fun b3 => ?_) (fun b3 => ?_)
  · replace h := h.1 b3
    refine q_lv (lv' := []) [] rfl ?_
    exact s_X5_addDivisor_40 g hR hX5 aX5_lesser aX5_divisors t_size t_listedP t_listedQ Q hF t_divisors t_divisorsSize r_t_divisors r_t_divisorsSize h
  replace h := h.2 b3
  refine q_aload_n g 0 0 rfl dX5_addDivisor_7 ?_
  refine q_get (C := RX5) (T := TX5) (N := 6) g 47 inX5 0 2 rfl rfl (by decide) wF_X5_47 rfl dX5_addDivisor_8 ?_
  refine q_aload_n g 0 0 rfl dX5_addDivisor_11 ?_
  refine q_get (C := RX5) (T := TX5) (N := 6) g 13 inX5 0 1 rfl rfl (by decide) wF_X5_13 rfl dX5_addDivisor_12 ?_
  refine q_alenI g 1 1100 rfl rfl dX5_addDivisor_15 ?_
  refine q_icmp_ge g (24) 40 r_t_divisorsSize (r32_lit _ (by decide)) (by decide) dX5_addDivisor_16 (fun b16 => ?_) (fun b16 => ?_)
  · replace h := h.1 b16
    refine q_lv (lv' := []) [] rfl ?_
    exact s_X5_addDivisor_40 g hR hX5 aX5_lesser aX5_divisors t_size t_listedP t_listedQ Q hF t_divisors t_divisorsSize r_t_divisors r_t_divisorsSize h
  replace h := h.2 b16
  refine q_aload_n g 0 0 rfl dX5_addDivisor_19 ?_
  refine q_get (C := RX5) (T := TX5) (N := 6) g 13 inX5 0 1 rfl rfl (by decide) wF_X5_13 rfl dX5_addDivisor_20 ?_
  refine q_aload_n g 0 0 rfl dX5_addDivisor_23 ?_
  refine q_get (C := RX5) (T := TX5) (N := 6) g 47 inX5 0 2 rfl rfl (by decide) wF_X5_47 rfl dX5_addDivisor_24 ?_
  refine q_lload_n g 1 1 rfl dX5_addDivisor_27 ?_
  obtain ⟨c28, h⟩ := h
  refine q_l2i g dX5_addDivisor_28 ?_
  obtain ⟨c29, h⟩ := h
  obtain ⟨e29, h⟩ := h
  refine q_iast (ws' := [(hX5, .inr (4, [.ref aX5_lesser, .ref aX5_divisors, .int (i32 t_divisorsSize), .int (i32 t_size), .int (i32 t_listedP), .int (i32 t_listedQ)])), (aX5_divisors, aI X.cI 1100 (ups t_divisors t_divisorsSize l1))]) g 1 rfl c29 e29 (by decide) rfl dX5_addDivisor_29 ?_
  refine q_aload_n g 0 0 rfl dX5_addDivisor_30 ?_
  refine q_dup g rfl dX5_addDivisor_31 ?_
  refine q_get (C := RX5) (T := TX5) (N := 6) g 47 inX5 0 2 rfl rfl (by decide) wF_X5_47 rfl dX5_addDivisor_32 ?_
  refine q_iconst g (1) dX5_addDivisor_35 ?_
  obtain ⟨c36, h⟩ := h
  refine q_iadd g dX5_addDivisor_36 ?_
  refine q_topi c36 (fun x37 ex37 rx37 => ?_)
  replace h := h x37 ex37
  refine q_put (C := RX5) (T := TX5) (N := 6) (ty := .int) (ws' := [(hX5, .inr (4, [.ref aX5_lesser, .ref aX5_divisors, .int (i32 x37), .int (i32 t_size), .int (i32 t_listedP), .int (i32 t_listedQ)])), (aX5_divisors, aI X.cI 1100 (ups t_divisors t_divisorsSize l1))]) g 47 inX5 tyX5_ok nmX5 0 2 rfl rfl (by decide) wF_X5_47 rfl rfl rfl rfl (Nat.le_of_ble_eq_true rfl) rfl dX5_addDivisor_37 ?_
  refine q_lv (lv' := []) [] rfl ?_
  exact s_X5_addDivisor_40 g hR hX5 aX5_lesser aX5_divisors t_size t_listedP t_listedQ Q hF (ups t_divisors t_divisorsSize l1) x37 (rr32_u r_t_divisors c28) rx37 h
theorem dX5_multiplyDivisors_0 : decode cX5_multiplyDivisors 0 = .ok (.iconst 0, 1) := by decide +kernel
theorem dX5_multiplyDivisors_1 : decode cX5_multiplyDivisors 1 = .ok (.istore 4, 2) := by decide +kernel
theorem dX5_multiplyDivisors_3 : decode cX5_multiplyDivisors 3 = .ok (.iconst 0, 1) := by decide +kernel
theorem dX5_multiplyDivisors_4 : decode cX5_multiplyDivisors 4 = .ok (.istore 5, 2) := by decide +kernel
theorem dX5_multiplyDivisors_6 : decode cX5_multiplyDivisors 6 = .ok (.iload 5, 2) := by decide +kernel
theorem dX5_multiplyDivisors_8 : decode cX5_multiplyDivisors 8 = .ok (.iload_n 2, 1) := by decide +kernel
theorem dX5_multiplyDivisors_9 : decode cX5_multiplyDivisors 9 = .ok (.if_icmp .ge 52, 3) := by decide +kernel
theorem dX5_multiplyDivisors_12 : decode cX5_multiplyDivisors 12 = .ok (.aload_n 0, 1) := by decide +kernel
theorem dX5_multiplyDivisors_13 : decode cX5_multiplyDivisors 13 = .ok (.getfield 47, 3) := by decide +kernel
theorem dX5_multiplyDivisors_16 : decode cX5_multiplyDivisors 16 = .ok (.istore 6, 2) := by decide +kernel
theorem dX5_multiplyDivisors_18 : decode cX5_multiplyDivisors 18 = .ok (.iload 4, 2) := by decide +kernel
theorem dX5_multiplyDivisors_20 : decode cX5_multiplyDivisors 20 = .ok (.istore 7, 2) := by decide +kernel
theorem dX5_multiplyDivisors_22 : decode cX5_multiplyDivisors 22 = .ok (.iload 7, 2) := by decide +kernel
theorem dX5_multiplyDivisors_24 : decode cX5_multiplyDivisors 24 = .ok (.iload 6, 2) := by decide +kernel
theorem dX5_multiplyDivisors_26 : decode cX5_multiplyDivisors 26 = .ok (.if_icmp .ge 25, 3) := by decide +kernel
theorem dX5_multiplyDivisors_29 : decode cX5_multiplyDivisors 29 = .ok (.aload_n 0, 1) := by decide +kernel
theorem dX5_multiplyDivisors_30 : decode cX5_multiplyDivisors 30 = .ok (.aload_n 0, 1) := by decide +kernel
theorem dX5_multiplyDivisors_31 : decode cX5_multiplyDivisors 31 = .ok (.getfield 13, 3) := by decide +kernel
theorem dX5_multiplyDivisors_34 : decode cX5_multiplyDivisors 34 = .ok (.iload 7, 2) := by decide +kernel
theorem dX5_multiplyDivisors_36 : decode cX5_multiplyDivisors 36 = .ok (.iaload, 1) := by decide +kernel
theorem dX5_multiplyDivisors_37 : decode cX5_multiplyDivisors 37 = .ok (.i2l, 1) := by decide +kernel
theorem dX5_multiplyDivisors_38 : decode cX5_multiplyDivisors 38 = .ok (.iload_n 1, 1) := by decide +kernel
theorem dX5_multiplyDivisors_39 : decode cX5_multiplyDivisors 39 = .ok (.i2l, 1) := by decide +kernel
theorem dX5_multiplyDivisors_40 : decode cX5_multiplyDivisors 40 = .ok (.lmul, 1) := by decide +kernel
theorem dX5_multiplyDivisors_41 : decode cX5_multiplyDivisors 41 = .ok (.iload_n 3, 1) := by decide +kernel
theorem dX5_multiplyDivisors_42 : decode cX5_multiplyDivisors 42 = .ok (.invokevirtual 50, 3) := by decide +kernel
theorem dX5_multiplyDivisors_45 : decode cX5_multiplyDivisors 45 = .ok (.iinc 7 1, 3) := by decide +kernel
theorem dX5_multiplyDivisors_48 : decode cX5_multiplyDivisors 48 = .ok (.goto (-26), 3) := by decide +kernel
theorem dX5_multiplyDivisors_51 : decode cX5_multiplyDivisors 51 = .ok (.iload 6, 2) := by decide +kernel
theorem dX5_multiplyDivisors_53 : decode cX5_multiplyDivisors 53 = .ok (.istore 4, 2) := by decide +kernel
theorem dX5_multiplyDivisors_55 : decode cX5_multiplyDivisors 55 = .ok (.iinc 5 1, 3) := by decide +kernel
theorem dX5_multiplyDivisors_58 : decode cX5_multiplyDivisors 58 = .ok (.goto (-52), 3) := by decide +kernel
theorem dX5_multiplyDivisors_61 : decode cX5_multiplyDivisors 61 = .ok (.return_, 1) := by decide +kernel
abbrev po_X5_multiplyDivisors (cI cJ : ClassId) (hX5 : Nat) (aX5_lesser : Nat) (aX5_divisors : Nat) (t_size : Int) (t_listedP : Int) (t_listedQ : Int) (Q : (Int → Int) → Int → Prop) : Option Value → va_W → Prop := fun rv w1 => ∃ (t_divisors : Int → Int) (t_divisorsSize : Int), rv = none ∧ w1 = [(hX5, .inr (4, [.ref aX5_lesser, .ref aX5_divisors, .int (i32 t_divisorsSize), .int (i32 t_size), .int (i32 t_listedP), .int (i32 t_listedQ)])), (aX5_divisors, aI cI 1100 t_divisors)] ∧ rr32 t_divisors ∧ r32 t_divisorsSize ∧ Q t_divisors t_divisorsSize
def wp_X5_multiplyDivisors_22 (Q : (Int → Int) → Int → Prop) (K_6 : (Int → Int) → Int → Int → Int → Int → Int → Int → Prop) : Nat → (Int → Int) → Int → Int → Int → Int → Int → Int → Int → Prop
  | 0, _, _, _, _, _, _, _, _ => False
  | n + 1, t_divisors, t_divisorsSize, l1, l2, l3, l5, l6, l7 => ((l6 ≤ l7 → (r32 (l5 + 1) ∧ K_6 t_divisors t_divisorsSize l1 l2 l3 l6 (l5 + 1))) ∧
  (¬ (l6 ≤ l7) → (0 ≤ l7 ∧ l7 < 1100 ∧ r64 ((t_divisors l7) * l1) ∧ wp_X5_addDivisor (fun (t_divisors_42 : Int → Int) (t_divisorsSize_42 : Int) => (r32 (l7 + 1) ∧ wp_X5_multiplyDivisors_22 Q K_6 n t_divisors_42 t_divisorsSize_42 l1 l2 l3 l5 l6 (l7 + 1))) t_divisors t_divisorsSize ((t_divisors l7) * l1) l3)))
set_option maxHeartbeats 4000000 in
set_option maxRecDepth 100000 in
theorem s_X5_multiplyDivisors_22 {X : Cx} (g : Gd X cX5_multiplyDivisors RX5 none 8) (hR : X.R = rmL 2 0 0) (hX5 : Nat) (aX5_lesser : Nat) (aX5_divisors : Nat) (t_size : Int) (t_listedP : Int) (t_listedQ : Int) (Q : (Int → Int) → Int → Prop) (hF : FQ X 0 0 (po_X5_multiplyDivisors X.cI X.cJ hX5 aX5_lesser aX5_divisors t_size t_listedP t_listedQ Q)) (K_6 : (Int → Int) → Int → Int → Int → Int → Int → Int → Prop) (hK_6 : ∀ (t_divisors : Int → Int) (t_divisorsSize : Int) (l1 : Int) (l2 : Int) (l3 : Int) (l4 : Int) (l5 : Int), rr32 t_divisors → r32 t_divisorsSize → r32 l1 → r32 l2 → r32 l3 → r32 l4 → r32 l5 → K_6 t_divisors t_divisorsSize l1 l2 l3 l4 l5 → Wat X 0 0 6 [(0, .ref hX5), (1, .int (i32 l1)), (2, .int (i32 l2)), (3, .int (i32 l3)), (4, .int (i32 l4)), (5, .int (i32 l5))] [] [(hX5, .inr (4, [.ref aX5_lesser, .ref aX5_divisors, .int (i32 t_divisorsSize), .int (i32 t_size), .int (i32 t_listedP), .int (i32 t_listedQ)])), (aX5_divisors, aI X.cI 1100 t_divisors)]) : ∀ (n : Nat) (t_divisors : Int → Int) (t_divisorsSize : Int) (l1 : Int) (l2 : Int) (l3 : Int) (l5 : Int) (l6 : Int) (l7 : Int), rr32 t_divisors → r32 t_divisorsSize → r32 l1 → r32 l2 → r32 l3 → r32 l5 → r32 l6 → r32 l7 → wp_X5_multiplyDivisors_22 Q K_6 n t_divisors t_divisorsSize l1 l2 l3 l5 l6 l7 → Wat X 0 0 22 [(0, .ref hX5), (1, .int (i32 l1)), (2, .int (i32 l2)), (3, .int (i32 l3)), (5, .int (i32 l5)), (6, .int (i32 l6)), (7, .int (i32 l7))] [] [(hX5, .inr (4, [.ref aX5_lesser, .ref aX5_divisors, .int (i32 t_divisorsSize), .int (i32 t_size), .int (i32 t_listedP), .int (i32 t_listedQ)])), (aX5_divisors, aI X.cI 1100 t_divisors)] := by
  intro n
  induction n with
  | zero => intro t_divisors t_divisorsSize l1 l2 l3 l5 l6 l7 r_t_divisors r_t_divisorsSize r_l1 r_l2 r_l3 r_l5 r_l6 r_l7 h; exact False.elim h
  | succ n ih =>
    intro t_divisors t_divisorsSize l1 l2 l3 l5 l6 l7 r_t_divisors r_t_divisorsSize r_l1 r_l2 r_l3 r_l5 r_l6 r_l7 h
    rw [wp_X5_multiplyDivisors_22] at h
    refine q_iload g 7 6 rfl dX5_multiplyDivisors_22 ?_
    refine q_iload g 6 5 rfl dX5_multiplyDivisors_24 ?_
    refine q_icmp_ge g (25) 51 r_l7 r_l6 (by decide) dX5_multiplyDivisors_26 (fun b26 => ?_) (fun b26 => ?_)
    · replace h := h.1 b26
      refine q_iload g 6 5 rfl dX5_multiplyDivisors_51 ?_
      refine q_istore (lv' := [(4, .int (i32 l6)), (0, .ref hX5), (1, .int (i32 l1)), (2, .int (i32 l2)), (3, .int (i32 l3)), (5, .int (i32 l5)), (6, .int (i32 l6)), (7, .int (i32 l7))]) g 4   (by decide) rfl dX5_multiplyDivisors_53 ?_
      obtain ⟨c55, h⟩ := h
      refine q_iinc (lv' := [(5, .int (i32 (l5 + 1))), (4, .int (i32 l6)), (0, .ref hX5), (1, .int (i32 l1)), (2, .int (i32 l2)), (3, .int (i32 l3)), (6, .int (i32 l6)), (7, .int (i32 l7))]) g 5 5 1 (by decide) rfl rfl dX5_multiplyDivisors_55 ?_
      refine q_goto g (-52) 6 (by decide) dX5_multiplyDivisors_58 ?_
      refine q_lv (lv' := [(0, .ref hX5), (1, .int (i32 l1)), (2, .int (i32 l2)), (3, .int (i32 l3)), (4, .int (i32 l6)), (5, .int (i32 (l5 + 1)))]) [2, 3, 4, 5, 1, 0] rfl ?_
      exact hK_6 t_divisors t_divisorsSize l1 l2 l3 l6 (l5 + 1) r_t_divisors r_t_divisorsSize r_l1 r_l2 r_l3 r_l6 c55 h
    replace h := h.2 b26
    refine q_aload_n g 0 0 rfl dX5_multiplyDivisors_29 ?_
    refine q_aload_n g 0 0 rfl dX5_multiplyDivisors_30 ?_
    refine q_get (C := RX5) (T := TX5) (N := 6) g 13 inX5 0 1 rfl rfl (by decide) wF_X5_13 rfl dX5_multiplyDivisors_31 ?_
    refine q_iload g 7 6 rfl dX5_multiplyDivisors_34 ?_
    obtain ⟨c36, h⟩ := h
    obtain ⟨e36, h⟩ := h
    refine q_iald g 1 rfl c36 e36 (by decide) dX5_multiplyDivisors_36 ?_
    refine q_i2l g (r_t_divisors _) dX5_multiplyDivisors_37 ?_
    refine q_iload_n g 1 1 rfl dX5_multiplyDivisors_38 ?_
    refine q_i2l g r_l1 dX5_multiplyDivisors_39 ?_
    obtain ⟨c40, h⟩ := h
    refine q_lmul g dX5_multiplyDivisors_40 ?_
    refine q_iload_n g 3 3 rfl dX5_multiplyDivisors_41 ?_
    refine q_callV (lev := 1) (mc := 0) (ms := 0) g 50 (c_X5_addDivisor X.l X.D X.cI X.cJ X.zt hX5 aX5_lesser aX5_divisors t_divisorsSize t_size t_listedP t_listedQ t_divisors ((t_divisors l7) * l1) l3 _ r_t_divisors r_t_divisorsSize c40 r_l3 h) (wr := []) [0, 1] [] rfl rfl rfl (by decide) (by decide) (by decide) (ci := 4) rfl rfl rfl wM_X5_50 wI_X5_addDivisor wS_X5_addDivisor wZ_X5 wC_X5_addDivisor 2 rfl (by decide +kernel) (by rw [hR]; exact ⟨by show 1 + 1 ≤ 2; omega, by show 8 + (4 + 11) + 100 * 1 ≤ 100 * 2; omega⟩) (by rw [hR]; exact ⟨Nat.le_refl _, Nat.le_refl _⟩) (Nat.le_of_ble_eq_true rfl) rfl dX5_multiplyDivisors_42 (fun rv w1 hq => ?_)
    obtain ⟨t_divisors_42, t_divisorsSize_42, rfl, rfl, rt_divisors_42, rt_divisorsSize_42, h⟩ := hq
    show Wat X 0 0 45 [(0, .ref hX5), (1, .int (i32 l1)), (2, .int (i32 l2)), (3, .int (i32 l3)), (5, .int (i32 l5)), (6, .int (i32 l6)), (7, .int (i32 l7))] [] [(hX5, .inr (4, [.ref aX5_lesser, .ref aX5_divisors, .int (i32 t_divisorsSize_42), .int (i32 t_size), .int (i32 t_listedP), .int (i32 t_listedQ)])), (aX5_divisors, aI X.cI 1100 t_divisors_42)]
    obtain ⟨c45, h⟩ := h
    refine q_iinc (lv' := [(7, .int (i32 (l7 + 1))), (0, .ref hX5), (1, .int (i32 l1)), (2, .int (i32 l2)), (3, .int (i32 l3)), (5, .int (i32 l5)), (6, .int (i32 l6))]) g 7 6 1 (by decide) rfl rfl dX5_multiplyDivisors_45 ?_
    refine q_goto g (-26) 22 (by decide) dX5_multiplyDivisors_48 ?_
    refine q_lv (lv' := [(0, .ref hX5), (1, .int (i32 l1)), (2, .int (i32 l2)), (3, .int (i32 l3)), (5, .int (i32 l5)), (6, .int (i32 l6)), (7, .int (i32 (l7 + 1)))]) [1, 2, 3, 4, 5, 6, 0] rfl ?_
    exact ih t_divisors_42 t_divisorsSize_42 l1 l2 l3 l5 l6 (l7 + 1) rt_divisors_42 rt_divisorsSize_42 r_l1 r_l2 r_l3 r_l5 r_l6 c45 h
def wp_X5_multiplyDivisors_6 (Q : (Int → Int) → Int → Prop) : Nat → (Int → Int) → Int → Int → Int → Int → Int → Int → Prop
  | 0, _, _, _, _, _, _, _ => False
  | n + 1, t_divisors, t_divisorsSize, l1, l2, l3, l4, l5 => ((l2 ≤ l5 → Q t_divisors t_divisorsSize) ∧
  (¬ (l2 ≤ l5) → (∃ n0 : Nat, wp_X5_multiplyDivisors_22 Q (wp_X5_multiplyDivisors_6 Q n) n0 t_divisors t_divisorsSize l1 l2 l3 l5 t_divisorsSize l4)))
set_option maxHeartbeats 4000000 in
set_option maxRecDepth 100000 in
theorem s_X5_multiplyDivisors_6 {X : Cx} (g : Gd X cX5_multiplyDivisors RX5 none 8) (hR : X.R = rmL 2 0 0) (hX5 : Nat) (aX5_lesser : Nat) (aX5_divisors : Nat) (t_size : Int) (t_listedP : Int) (t_listedQ : Int) (Q : (Int → Int) → Int → Prop) (hF : FQ X 0 0 (po_X5_multiplyDivisors X.cI X.cJ hX5 aX5_lesser aX5_divisors t_size t_listedP t_listedQ Q)) : ∀ (n : Nat) (t_divisors : Int → Int) (t_divisorsSize : Int) (l1 : Int) (l2 : Int) (l3 : Int) (l4 : Int) (l5 : Int), rr32 t_divisors → r32 t_divisorsSize → r32 l1 → r32 l2 → r32 l3 → r32 l4 → r32 l5 → wp_X5_multiplyDivisors_6 Q n t_divisors t_divisorsSize l1 l2 l3 l4 l5 → Wat X 0 0 6 [(0, .ref hX5), (1, .int (i32 l1)), (2, .int (i32 l2)), (3, .int (i32 l3)), (4, .int (i32 l4)), (5, .int (i32 l5))] [] [(hX5, .inr (4, [.ref aX5_lesser, .ref aX5_divisors, .int (i32 t_divisorsSize), .int (i32 t_size), .int (i32 t_listedP), .int (i32 t_listedQ)])), (aX5_divisors, aI X.cI 1100 t_divisors)] := by
  intro n
  induction n with
  | zero => intro t_divisors t_divisorsSize l1 l2 l3 l4 l5 r_t_divisors r_t_divisorsSize r_l1 r_l2 r_l3 r_l4 r_l5 h; exact False.elim h
  | succ n ih =>
    intro t_divisors t_divisorsSize l1 l2 l3 l4 l5 r_t_divisors r_t_divisorsSize r_l1 r_l2 r_l3 r_l4 r_l5 h
    rw [wp_X5_multiplyDivisors_6] at h
    refine q_iload g 5 5 rfl dX5_multiplyDivisors_6 ?_
    refine q_iload_n g 2 2 rfl dX5_multiplyDivisors_8 ?_
    refine q_icmp_ge g (52) 61 r_l5 r_l2 (by decide) dX5_multiplyDivisors_9 (fun b9 => ?_) (fun b9 => ?_)
    · replace h := h.1 b9
      exact q_vret g hF ⟨t_divisors, t_divisorsSize, rfl, rfl, r_t_divisors, r_t_divisorsSize, h⟩ dX5_multiplyDivisors_61
    replace h := h.2 b9
    refine q_aload_n g 0 0 rfl dX5_multiplyDivisors_12 ?_
    refine q_get (C := RX5) (T := TX5) (N := 6) g 47 inX5 0 2 rfl rfl (by decide) wF_X5_47 rfl dX5_multiplyDivisors_13 ?_
    refine q_istore (lv' := [(6, .int (i32 t_divisorsSize)), (0, .ref hX5), (1, .int (i32 l1)), (2, .int (i32 l2)), (3, .int (i32 l3)), (4, .int (i32 l4)), (5, .int (i32 l5))]) g 6   (by decide) rfl dX5_multiplyDivisors_16 ?_
    refine q_iload g 4 5 rfl dX5_multiplyDivisors_18 ?_
    refine q_istore (lv' := [(7, .int (i32 l4)), (6, .int (i32 t_divisorsSize)), (0, .ref hX5), (1, .int (i32 l1)), (2, .int (i32 l2)), (3, .int (i32 l3)), (4, .int (i32 l4)), (5, .int (i32 l5))]) g 7   (by decide) rfl dX5_multiplyDivisors_20 ?_
    refine q_lv (lv' := [(0, .ref hX5), (1, .int (i32 l1)), (2, .int (i32 l2)), (3, .int (i32 l3)), (5, .int (i32 l5)), (6, .int (i32 t_divisorsSize)), (7, .int (i32 l4))]) [2, 3, 4, 5, 7, 1, 0] rfl ?_
    obtain ⟨n0, h⟩ := h
    exact s_X5_multiplyDivisors_22 g hR hX5 aX5_lesser aX5_divisors t_size t_listedP t_listedQ Q hF (wp_X5_multiplyDivisors_6 Q n) (fun v0 v1 v2 v3 v4 v5 v6 w0 w1 w2 w3 w4 w5 w6 hh => ih v0 v1 v2 v3 v4 v5 v6 w0 w1 w2 w3 w4 w5 w6 hh) n0 t_divisors t_divisorsSize l1 l2 l3 l5 t_divisorsSize l4 r_t_divisors r_t_divisorsSize r_l1 r_l2 r_l3 r_l5 r_t_divisorsSize r_l4 h
def wp_X5_multiplyDivisors (Q : (Int → Int) → Int → Prop) (t_divisors : Int → Int) (t_divisorsSize : Int) (l1 : Int) (l2 : Int) (l3 : Int) : Prop := (∃ n0 : Nat, wp_X5_multiplyDivisors_6 Q n0 t_divisors t_divisorsSize l1 l2 l3 0 0)
set_option maxHeartbeats 4000000 in
set_option maxRecDepth 100000 in
theorem c_X5_multiplyDivisors (l : Launch) (D : va_G) (cI cJ : ClassId) (zt : Nat) (hX5 : Nat) (aX5_lesser : Nat) (aX5_divisors : Nat) (t_divisorsSize : Int) (t_size : Int) (t_listedP : Int) (t_listedQ : Int) (t_divisors : Int → Int) (l1 : Int) (l2 : Int) (l3 : Int) (Q : (Int → Int) → Int → Prop) (r_t_divisors : rr32 t_divisors) (r_t_divisorsSize : r32 t_divisorsSize) (r_l1 : r32 l1) (r_l2 : r32 l2) (r_l3 : r32 l3) (h : wp_X5_multiplyDivisors Q t_divisors t_divisorsSize l1 l2 l3) : Ct l D cI cJ zt yX5_multiplyDivisors cX5_multiplyDivisors 8 none 2 0 0 [.ref hX5, .int (i32 l1), .int (i32 l2), .int (i32 l3)] [(hX5, .inr (4, [.ref aX5_lesser, .ref aX5_divisors, .int (i32 t_divisorsSize), .int (i32 t_size), .int (i32 t_listedP), .int (i32 t_listedQ)])), (aX5_divisors, aI cI 1100 t_divisors)] (po_X5_multiplyDivisors cI cJ hX5 aX5_lesser aX5_divisors t_size t_listedP t_listedQ Q) := by
  refine ct_of (by decide +kernel) (Nat.le_of_ble_eq_true rfl) (fun X hl hDD hcI hcJ hzt hR hF hnm g => ?_)
  subst hl; subst hDD; subst hcI; subst hcJ; subst hzt
  show Wat X 0 0 0 [(0, .ref hX5), (1, .int (i32 l1)), (2, .int (i32 l2)), (3, .int (i32 l3))] [] [(hX5, .inr (4, [.ref aX5_lesser, .ref aX5_divisors, .int (i32 t_divisorsSize), .int (i32 t_size), .int (i32 t_listedP), .int (i32 t_listedQ)])), (aX5_divisors, aI X.cI 1100 t_divisors)]
  replace g : Gd X cX5_multiplyDivisors RX5 none 8 := g
  rw [wp_X5_multiplyDivisors] at h
  refine q_iconst g (0) dX5_multiplyDivisors_0 ?_
  refine q_istore (lv' := [(4, .int (i32 0)), (0, .ref hX5), (1, .int (i32 l1)), (2, .int (i32 l2)), (3, .int (i32 l3))]) g 4   (by decide) rfl dX5_multiplyDivisors_1 ?_
  refine q_iconst g (0) dX5_multiplyDivisors_3 ?_
  refine q_istore (lv' := [(5, .int (i32 0)), (4, .int (i32 0)), (0, .ref hX5), (1, .int (i32 l1)), (2, .int (i32 l2)), (3, .int (i32 l3))]) g 5   (by decide) rfl dX5_multiplyDivisors_4 ?_
  refine q_lv (lv' := [(0, .ref hX5), (1, .int (i32 l1)), (2, .int (i32 l2)), (3, .int (i32 l3)), (4, .int (i32 0)), (5, .int (i32 0))]) [2, 3, 4, 5, 1, 0] rfl ?_
  obtain ⟨n0, h⟩ := h
  exact s_X5_multiplyDivisors_6 g hR hX5 aX5_lesser aX5_divisors t_size t_listedP t_listedQ Q hF n0 t_divisors t_divisorsSize l1 l2 l3 0 0 r_t_divisors r_t_divisorsSize r_l1 r_l2 r_l3 (r32_lit _ (by decide)) (r32_lit _ (by decide)) h
theorem dX5_listSquareDivisors_0 : decode cX5_listSquareDivisors 0 = .ok (.aload_n 0, 1) := by decide +kernel
theorem dX5_listSquareDivisors_1 : decode cX5_listSquareDivisors 1 = .ok (.iconst 0, 1) := by decide +kernel
theorem dX5_listSquareDivisors_2 : decode cX5_listSquareDivisors 2 = .ok (.putfield 47, 3) := by decide +kernel
theorem dX5_listSquareDivisors_5 : decode cX5_listSquareDivisors 5 = .ok (.aload_n 0, 1) := by decide +kernel
theorem dX5_listSquareDivisors_6 : decode cX5_listSquareDivisors 6 = .ok (.lconst 1, 1) := by decide +kernel
theorem dX5_listSquareDivisors_7 : decode cX5_listSquareDivisors 7 = .ok (.iload_n 1, 1) := by decide +kernel
theorem dX5_listSquareDivisors_8 : decode cX5_listSquareDivisors 8 = .ok (.invokevirtual 50, 3) := by decide +kernel
theorem dX5_listSquareDivisors_11 : decode cX5_listSquareDivisors 11 = .ok (.iload_n 1, 1) := by decide +kernel
theorem dX5_listSquareDivisors_12 : decode cX5_listSquareDivisors 12 = .ok (.istore_n 2, 1) := by decide +kernel
theorem dX5_listSquareDivisors_13 : decode cX5_listSquareDivisors 13 = .ok (.iconst 2, 1) := by decide +kernel
theorem dX5_listSquareDivisors_14 : decode cX5_listSquareDivisors 14 = .ok (.istore_n 3, 1) := by decide +kernel
theorem dX5_listSquareDivisors_15 : decode cX5_listSquareDivisors 15 = .ok (.iload_n 3, 1) := by decide +kernel
theorem dX5_listSquareDivisors_16 : decode cX5_listSquareDivisors 16 = .ok (.iload_n 2, 1) := by decide +kernel
theorem dX5_listSquareDivisors_17 : decode cX5_listSquareDivisors 17 = .ok (.iload_n 3, 1) := by decide +kernel
theorem dX5_listSquareDivisors_18 : decode cX5_listSquareDivisors 18 = .ok (.idiv, 1) := by decide +kernel
theorem dX5_listSquareDivisors_19 : decode cX5_listSquareDivisors 19 = .ok (.if_icmp .gt 49, 3) := by decide +kernel
theorem dX5_listSquareDivisors_22 : decode cX5_listSquareDivisors 22 = .ok (.iconst 0, 1) := by decide +kernel
theorem dX5_listSquareDivisors_23 : decode cX5_listSquareDivisors 23 = .ok (.istore 4, 2) := by decide +kernel
theorem dX5_listSquareDivisors_25 : decode cX5_listSquareDivisors 25 = .ok (.iconst 0, 1) := by decide +kernel
theorem dX5_listSquareDivisors_26 : decode cX5_listSquareDivisors 26 = .ok (.istore 5, 2) := by decide +kernel
theorem dX5_listSquareDivisors_28 : decode cX5_listSquareDivisors 28 = .ok (.iload 5, 2) := by decide +kernel
theorem dX5_listSquareDivisors_30 : decode cX5_listSquareDivisors 30 = .ok (.bipush 31, 2) := by decide +kernel
theorem dX5_listSquareDivisors_32 : decode cX5_listSquareDivisors 32 = .ok (.if_icmp .ge 22, 3) := by decide +kernel
theorem dX5_listSquareDivisors_35 : decode cX5_listSquareDivisors 35 = .ok (.iload_n 2, 1) := by decide +kernel
theorem dX5_listSquareDivisors_36 : decode cX5_listSquareDivisors 36 = .ok (.iload_n 3, 1) := by decide +kernel
theorem dX5_listSquareDivisors_37 : decode cX5_listSquareDivisors 37 = .ok (.irem, 1) := by decide +kernel
theorem dX5_listSquareDivisors_38 : decode cX5_listSquareDivisors 38 = .ok (.ifCond .ne 16, 3) := by decide +kernel
theorem dX5_listSquareDivisors_41 : decode cX5_listSquareDivisors 41 = .ok (.iload_n 2, 1) := by decide +kernel
theorem dX5_listSquareDivisors_42 : decode cX5_listSquareDivisors 42 = .ok (.iload_n 3, 1) := by decide +kernel
theorem dX5_listSquareDivisors_43 : decode cX5_listSquareDivisors 43 = .ok (.idiv, 1) := by decide +kernel
theorem dX5_listSquareDivisors_44 : decode cX5_listSquareDivisors 44 = .ok (.istore_n 2, 1) := by decide +kernel
theorem dX5_listSquareDivisors_45 : decode cX5_listSquareDivisors 45 = .ok (.iinc 4 2, 3) := by decide +kernel
theorem dX5_listSquareDivisors_48 : decode cX5_listSquareDivisors 48 = .ok (.iinc 5 1, 3) := by decide +kernel
theorem dX5_listSquareDivisors_51 : decode cX5_listSquareDivisors 51 = .ok (.goto (-23), 3) := by decide +kernel
theorem dX5_listSquareDivisors_54 : decode cX5_listSquareDivisors 54 = .ok (.aload_n 0, 1) := by decide +kernel
theorem dX5_listSquareDivisors_55 : decode cX5_listSquareDivisors 55 = .ok (.iload_n 3, 1) := by decide +kernel
theorem dX5_listSquareDivisors_56 : decode cX5_listSquareDivisors 56 = .ok (.iload 4, 2) := by decide +kernel
theorem dX5_listSquareDivisors_58 : decode cX5_listSquareDivisors 58 = .ok (.iload_n 1, 1) := by decide +kernel
theorem dX5_listSquareDivisors_59 : decode cX5_listSquareDivisors 59 = .ok (.invokevirtual 54, 3) := by decide +kernel
theorem dX5_listSquareDivisors_62 : decode cX5_listSquareDivisors 62 = .ok (.iinc 3 1, 3) := by decide +kernel
theorem dX5_listSquareDivisors_65 : decode cX5_listSquareDivisors 65 = .ok (.goto (-50), 3) := by decide +kernel
theorem dX5_listSquareDivisors_68 : decode cX5_listSquareDivisors 68 = .ok (.iload_n 2, 1) := by decide +kernel
theorem dX5_listSquareDivisors_69 : decode cX5_listSquareDivisors 69 = .ok (.iconst 1, 1) := by decide +kernel
theorem dX5_listSquareDivisors_70 : decode cX5_listSquareDivisors 70 = .ok (.if_icmp .le 10, 3) := by decide +kernel
theorem dX5_listSquareDivisors_73 : decode cX5_listSquareDivisors 73 = .ok (.aload_n 0, 1) := by decide +kernel
theorem dX5_listSquareDivisors_74 : decode cX5_listSquareDivisors 74 = .ok (.iload_n 2, 1) := by decide +kernel
theorem dX5_listSquareDivisors_75 : decode cX5_listSquareDivisors 75 = .ok (.iconst 2, 1) := by decide +kernel
theorem dX5_listSquareDivisors_76 : decode cX5_listSquareDivisors 76 = .ok (.iload_n 1, 1) := by decide +kernel
theorem dX5_listSquareDivisors_77 : decode cX5_listSquareDivisors 77 = .ok (.invokevirtual 54, 3) := by decide +kernel
theorem dX5_listSquareDivisors_80 : decode cX5_listSquareDivisors 80 = .ok (.return_, 1) := by decide +kernel
abbrev po_X5_listSquareDivisors (cI cJ : ClassId) (hX5 : Nat) (aX5_lesser : Nat) (aX5_divisors : Nat) (t_size : Int) (t_listedP : Int) (t_listedQ : Int) (Q : (Int → Int) → Int → Prop) : Option Value → va_W → Prop := fun rv w1 => ∃ (t_divisors : Int → Int) (t_divisorsSize : Int), rv = none ∧ w1 = [(hX5, .inr (4, [.ref aX5_lesser, .ref aX5_divisors, .int (i32 t_divisorsSize), .int (i32 t_size), .int (i32 t_listedP), .int (i32 t_listedQ)])), (aX5_divisors, aI cI 1100 t_divisors)] ∧ rr32 t_divisors ∧ r32 t_divisorsSize ∧ Q t_divisors t_divisorsSize
def wp_X5_listSquareDivisors_54 (Q : (Int → Int) → Int → Prop) (K_15 : (Int → Int) → Int → Int → Int → Int → Prop) (t_divisors : Int → Int) (t_divisorsSize : Int) (l1 : Int) (l2 : Int) (l3 : Int) (l4 : Int) : Prop := wp_X5_multiplyDivisors (fun (t_divisors_59 : Int → Int) (t_divisorsSize_59 : Int) => (r32 (l3 + 1) ∧ K_15 t_divisors_59 t_divisorsSize_59 l1 l2 (l3 + 1))) t_divisors t_divisorsSize l3 l4 l1
set_option maxHeartbeats 4000000 in
set_option maxRecDepth 100000 in
theorem s_X5_listSquareDivisors_54 {X : Cx} (g : Gd X cX5_listSquareDivisors RX5 none 6) (hR : X.R = rmL 3 0 0) (hX5 : Nat) (aX5_lesser : Nat) (aX5_divisors : Nat) (t_size : Int) (t_listedP : Int) (t_listedQ : Int) (Q : (Int → Int) → Int → Prop) (hF : FQ X 0 0 (po_X5_listSquareDivisors X.cI X.cJ hX5 aX5_lesser aX5_divisors t_size t_listedP t_listedQ Q)) (K_15 : (Int → Int) → Int → Int → Int → Int → Prop) (hK_15 : ∀ (t_divisors : Int → Int) (t_divisorsSize : Int) (l1 : Int) (l2 : Int) (l3 : Int), rr32 t_divisors → r32 t_divisorsSize → r32 l1 → r32 l2 → r32 l3 → K_15 t_divisors t_divisorsSize l1 l2 l3 → Wat X 0 0 15 [(0, .ref hX5), (1, .int (i32 l1)), (2, .int (i32 l2)), (3, .int (i32 l3))] [] [(hX5, .inr (4, [.ref aX5_lesser, .ref aX5_divisors, .int (i32 t_divisorsSize), .int (i32 t_size), .int (i32 t_listedP), .int (i32 t_listedQ)])), (aX5_divisors, aI X.cI 1100 t_divisors)]) : ∀ (t_divisors : Int → Int) (t_divisorsSize : Int) (l1 : Int) (l2 : Int) (l3 : Int) (l4 : Int), rr32 t_divisors → r32 t_divisorsSize → r32 l1 → r32 l2 → r32 l3 → r32 l4 → wp_X5_listSquareDivisors_54 Q K_15 t_divisors t_divisorsSize l1 l2 l3 l4 → Wat X 0 0 54 [(0, .ref hX5), (1, .int (i32 l1)), (2, .int (i32 l2)), (3, .int (i32 l3)), (4, .int (i32 l4))] [] [(hX5, .inr (4, [.ref aX5_lesser, .ref aX5_divisors, .int (i32 t_divisorsSize), .int (i32 t_size), .int (i32 t_listedP), .int (i32 t_listedQ)])), (aX5_divisors, aI X.cI 1100 t_divisors)] := by
  intro t_divisors t_divisorsSize l1 l2 l3 l4 r_t_divisors r_t_divisorsSize r_l1 r_l2 r_l3 r_l4 h
  rw [wp_X5_listSquareDivisors_54] at h
  refine q_aload_n g 0 0 rfl dX5_listSquareDivisors_54 ?_
  refine q_iload_n g 3 3 rfl dX5_listSquareDivisors_55 ?_
  refine q_iload g 4 4 rfl dX5_listSquareDivisors_56 ?_
  refine q_iload_n g 1 1 rfl dX5_listSquareDivisors_58 ?_
  refine q_callV (lev := 2) (mc := 0) (ms := 0) g 54 (c_X5_multiplyDivisors X.l X.D X.cI X.cJ X.zt hX5 aX5_lesser aX5_divisors t_divisorsSize t_size t_listedP t_listedQ t_divisors l3 l4 l1 _ r_t_divisors r_t_divisorsSize r_l3 r_l4 r_l1 h) (wr := []) [0, 1] [] rfl rfl rfl (by decide) (by decide) (by decide) (ci := 4) rfl rfl rfl wM_X5_54 wI_X5_multiplyDivisors wS_X5_multiplyDivisors wZ_X5 wC_X5_multiplyDivisors 3 rfl (by decide +kernel) (by rw [hR]; exact ⟨by show 2 + 1 ≤ 3; omega, by show 8 + (8 + 11) + 100 * 2 ≤ 100 * 3; omega⟩) (by rw [hR]; exact ⟨Nat.le_refl _, Nat.le_refl _⟩) (Nat.le_of_ble_eq_true rfl) rfl dX5_listSquareDivisors_59 (fun rv w1 hq => ?_)
  obtain ⟨t_divisors_59, t_divisorsSize_59, rfl, rfl, rt_divisors_59, rt_divisorsSize_59, h⟩ := hq
  show Wat X 0 0 62 [(0, .ref hX5), (1, .int (i32 l1)), (2, .int (i32 l2)), (3, .int (i32 l3)), (4, .int (i32 l4))] [] [(hX5, .inr (4, [.ref aX5_lesser, .ref aX5_divisors, .int (i32 t_divisorsSize_59), .int (i32 t_size), .int (i32 t_listedP), .int (i32 t_listedQ)])), (aX5_divisors, aI X.cI 1100 t_divisors_59)]
  obtain ⟨c62, h⟩ := h
  refine q_iinc (lv' := [(3, .int (i32 (l3 + 1))), (0, .ref hX5), (1, .int (i32 l1)), (2, .int (i32 l2)), (4, .int (i32 l4))]) g 3 3 1 (by decide) rfl rfl dX5_listSquareDivisors_62 ?_
  refine q_goto g (-50) 15 (by decide) dX5_listSquareDivisors_65 ?_
  refine q_lv (lv' := [(0, .ref hX5), (1, .int (i32 l1)), (2, .int (i32 l2)), (3, .int (i32 (l3 + 1)))]) [1, 2, 3, 0] rfl ?_
  exact hK_15 t_divisors_59 t_divisorsSize_59 l1 l2 (l3 + 1) rt_divisors_59 rt_divisorsSize_59 r_l1 r_l2 c62 h
def wp_X5_listSquareDivisors_28 (Q : (Int → Int) → Int → Prop) (K_15 : (Int → Int) → Int → Int → Int → Int → Prop) : Nat → (Int → Int) → Int → Int → Int → Int → Int → Int → Prop
  | 0, _, _, _, _, _, _, _ => False
  | n + 1, t_divisors, t_divisorsSize, l1, l2, l3, l4, l5 => ((31 ≤ l5 → wp_X5_listSquareDivisors_54 Q K_15 t_divisors t_divisorsSize l1 l2 l3 l4) ∧
  (¬ (31 ≤ l5) → (0 < l3 ∧ ((¬ (l2.tmod l3) = 0 → wp_X5_listSquareDivisors_54 Q K_15 t_divisors t_divisorsSize l1 l2 l3 l4) ∧
  ((l2.tmod l3) = 0 → (0 < l3 ∧ ∀ x44 : Int, x44 = (l2.tdiv l3) → r32 (l4 + 2) ∧ r32 (l5 + 1) ∧ wp_X5_listSquareDivisors_28 Q K_15 n t_divisors t_divisorsSize l1 x44 l3 (l4 + 2) (l5 + 1)))))))
set_option maxHeartbeats 4000000 in
set_option maxRecDepth 100000 in
theorem s_X5_listSquareDivisors_28 {X : Cx} (g : Gd X cX5_listSquareDivisors RX5 none 6) (hR : X.R = rmL 3 0 0) (hX5 : Nat) (aX5_lesser : Nat) (aX5_divisors : Nat) (t_size : Int) (t_listedP : Int) (t_listedQ : Int) (Q : (Int → Int) → Int → Prop) (hF : FQ X 0 0 (po_X5_listSquareDivisors X.cI X.cJ hX5 aX5_lesser aX5_divisors t_size t_listedP t_listedQ Q)) (K_15 : (Int → Int) → Int → Int → Int → Int → Prop) (hK_15 : ∀ (t_divisors : Int → Int) (t_divisorsSize : Int) (l1 : Int) (l2 : Int) (l3 : Int), rr32 t_divisors → r32 t_divisorsSize → r32 l1 → r32 l2 → r32 l3 → K_15 t_divisors t_divisorsSize l1 l2 l3 → Wat X 0 0 15 [(0, .ref hX5), (1, .int (i32 l1)), (2, .int (i32 l2)), (3, .int (i32 l3))] [] [(hX5, .inr (4, [.ref aX5_lesser, .ref aX5_divisors, .int (i32 t_divisorsSize), .int (i32 t_size), .int (i32 t_listedP), .int (i32 t_listedQ)])), (aX5_divisors, aI X.cI 1100 t_divisors)]) : ∀ (n : Nat) (t_divisors : Int → Int) (t_divisorsSize : Int) (l1 : Int) (l2 : Int) (l3 : Int) (l4 : Int) (l5 : Int), rr32 t_divisors → r32 t_divisorsSize → r32 l1 → r32 l2 → r32 l3 → r32 l4 → r32 l5 → wp_X5_listSquareDivisors_28 Q K_15 n t_divisors t_divisorsSize l1 l2 l3 l4 l5 → Wat X 0 0 28 [(0, .ref hX5), (1, .int (i32 l1)), (2, .int (i32 l2)), (3, .int (i32 l3)), (4, .int (i32 l4)), (5, .int (i32 l5))] [] [(hX5, .inr (4, [.ref aX5_lesser, .ref aX5_divisors, .int (i32 t_divisorsSize), .int (i32 t_size), .int (i32 t_listedP), .int (i32 t_listedQ)])), (aX5_divisors, aI X.cI 1100 t_divisors)] := by
  intro n
  induction n with
  | zero => intro t_divisors t_divisorsSize l1 l2 l3 l4 l5 r_t_divisors r_t_divisorsSize r_l1 r_l2 r_l3 r_l4 r_l5 h; exact False.elim h
  | succ n ih =>
    intro t_divisors t_divisorsSize l1 l2 l3 l4 l5 r_t_divisors r_t_divisorsSize r_l1 r_l2 r_l3 r_l4 r_l5 h
    rw [wp_X5_listSquareDivisors_28] at h
    refine q_iload g 5 5 rfl dX5_listSquareDivisors_28 ?_
    refine q_bipush g (31) (by decide) (by decide) dX5_listSquareDivisors_30 ?_
    refine q_icmp_ge g (22) 54 r_l5 (r32_lit _ (by decide)) (by decide) dX5_listSquareDivisors_32 (fun b32 => ?_) (fun b32 => ?_)
    · replace h := h.1 b32
      refine q_lv (lv' := [(0, .ref hX5), (1, .int (i32 l1)), (2, .int (i32 l2)), (3, .int (i32 l3)), (4, .int (i32 l4))]) [0, 1, 2, 3, 4] rfl ?_
      exact s_X5_listSquareDivisors_54 g hR hX5 aX5_lesser aX5_divisors t_size t_listedP t_listedQ Q hF K_15 hK_15 t_divisors t_divisorsSize l1 l2 l3 l4 r_t_divisors r_t_divisorsSize r_l1 r_l2 r_l3 r_l4 h
    replace h := h.2 b32
    refine q_iload_n g 2 2 rfl dX5_listSquareDivisors_35 ?_
    refine q_iload_n g 3 3 rfl dX5_listSquareDivisors_36 ?_
    obtain ⟨c37, h⟩ := h
    refine q_irem g r_l2 r_l3 (ne_of_pos c37) dX5_listSquareDivisors_37 ?_
    refine q_if_ne g (16) 54 (r32_tmod r_l2 r_l3 (ne_of_pos c37)) (by decide) dX5_listSquareDivisors_38 (fun b38 => ?_) (fun b38 => ?_)
    · replace h := h.1 b38
      refine q_lv (lv' := [(0, .ref hX5), (1, .int (i32 l1)), (2, .int (i32 l2)), (3, .int (i32 l3)), (4, .int (i32 l4))]) [0, 1, 2, 3, 4] rfl ?_
      exact s_X5_listSquareDivisors_54 g hR hX5 aX5_lesser aX5_divisors t_size t_listedP t_listedQ Q hF K_15 hK_15 t_divisors t_divisorsSize l1 l2 l3 l4 r_t_divisors r_t_divisorsSize r_l1 r_l2 r_l3 r_l4 h
    replace h := h.2 b38
    refine q_iload_n g 2 2 rfl dX5_listSquareDivisors_41 ?_
    refine q_iload_n g 3 3 rfl dX5_listSquareDivisors_42 ?_
    obtain ⟨c43, h⟩ := h
    refine q_idiv g r_l2 r_l3 (ne_of_pos c43) dX5_listSquareDivisors_43 ?_
    refine q_topi (r32_tdiv r_l2 c43) (fun x44 ex44 rx44 => ?_)
    replace h := h x44 ex44
    refine q_istore_n (lv' := [(2, .int (i32 x44)), (0, .ref hX5), (1, .int (i32 l1)), (3, .int (i32 l3)), (4, .int (i32 l4)), (5, .int (i32 l5))]) g 2 2 rfl (by decide) rfl dX5_listSquareDivisors_44 ?_
    obtain ⟨c45, h⟩ := h
    refine q_iinc (lv' := [(4, .int (i32 (l4 + 2))), (2, .int (i32 x44)), (0, .ref hX5), (1, .int (i32 l1)), (3, .int (i32 l3)), (5, .int (i32 l5))]) g 4 4 2 (by decide) rfl rfl dX5_listSquareDivisors_45 ?_
    obtain ⟨c48, h⟩ := h
    refine q_iinc (lv' := [(5, .int (i32 (l5 + 1))), (4, .int (i32 (l4 + 2))), (2, .int (i32 x44)), (0, .ref hX5), (1, .int (i32 l1)), (3, .int (i32 l3))]) g 5 5 1 (by decide) rfl rfl dX5_listSquareDivisors_48 ?_
    refine q_goto g (-23) 28 (by decide) dX5_listSquareDivisors_51 ?_
    refine q_lv (lv' := [(0, .ref hX5), (1, .int (i32 l1)), (2, .int (i32 x44)), (3, .int (i32 l3)), (4, .int (i32 (l4 + 2))), (5, .int (i32 (l5 + 1)))]) [3, 4, 2, 5, 1, 0] rfl ?_
    exact ih t_divisors t_divisorsSize l1 x44 l3 (l4 + 2) (l5 + 1) r_t_divisors r_t_divisorsSize r_l1 rx44 r_l3 c45 c48 h
def wp_X5_listSquareDivisors_80 (Q : (Int → Int) → Int → Prop) (t_divisors : Int → Int) (t_divisorsSize : Int) : Prop := Q t_divisors t_divisorsSize
set_option maxHeartbeats 4000000 in
set_option maxRecDepth 100000 in
theorem s_X5_listSquareDivisors_80 {X : Cx} (g : Gd X cX5_listSquareDivisors RX5 none 6) (hR : X.R = rmL 3 0 0) (hX5 : Nat) (aX5_lesser : Nat) (aX5_divisors : Nat) (t_size : Int) (t_listedP : Int) (t_listedQ : Int) (Q : (Int → Int) → Int → Prop) (hF : FQ X 0 0 (po_X5_listSquareDivisors X.cI X.cJ hX5 aX5_lesser aX5_divisors t_size t_listedP t_listedQ Q)) : ∀ (t_divisors : Int → Int) (t_divisorsSize : Int), rr32 t_divisors → r32 t_divisorsSize → wp_X5_listSquareDivisors_80 Q t_divisors t_divisorsSize → Wat X 0 0 80 [] [] [(hX5, .inr (4, [.ref aX5_lesser, .ref aX5_divisors, .int (i32 t_divisorsSize), .int (i32 t_size), .int (i32 t_listedP), .int (i32 t_listedQ)])), (aX5_divisors, aI X.cI 1100 t_divisors)] := by
  intro t_divisors t_divisorsSize r_t_divisors r_t_divisorsSize h
  rw [wp_X5_listSquareDivisors_80] at h
  exact q_vret g hF ⟨t_divisors, t_divisorsSize, rfl, rfl, r_t_divisors, r_t_divisorsSize, h⟩ dX5_listSquareDivisors_80
def wp_X5_listSquareDivisors_15 (Q : (Int → Int) → Int → Prop) : Nat → (Int → Int) → Int → Int → Int → Int → Prop
  | 0, _, _, _, _, _ => False
  | n + 1, t_divisors, t_divisorsSize, l1, l2, l3 => (0 < l3 ∧ (((l2.tdiv l3) < l3 → ((l2 ≤ 1 → wp_X5_listSquareDivisors_80 Q t_divisors t_divisorsSize) ∧
  (¬ (l2 ≤ 1) → wp_X5_multiplyDivisors (fun (t_divisors_77 : Int → Int) (t_divisorsSize_77 : Int) => wp_X5_listSquareDivisors_80 Q t_divisors_77 t_divisorsSize_77) t_divisors t_divisorsSize l2 2 l1))) ∧
  (¬ ((l2.tdiv l3) < l3) → (∃ n0 : Nat, wp_X5_listSquareDivisors_28 Q (wp_X5_listSquareDivisors_15 Q n) n0 t_divisors t_divisorsSize l1 l2 l3 0 0))))
set_option maxHeartbeats 4000000 in
set_option maxRecDepth 100000 in
theorem s_X5_listSquareDivisors_15 {X : Cx} (g : Gd X cX5_listSquareDivisors RX5 none 6) (hR : X.R = rmL 3 0 0) (hX5 : Nat) (aX5_lesser : Nat) (aX5_divisors : Nat) (t_size : Int) (t_listedP : Int) (t_listedQ : Int) (Q : (Int → Int) → Int → Prop) (hF : FQ X 0 0 (po_X5_listSquareDivisors X.cI X.cJ hX5 aX5_lesser aX5_divisors t_size t_listedP t_listedQ Q)) : ∀ (n : Nat) (t_divisors : Int → Int) (t_divisorsSize : Int) (l1 : Int) (l2 : Int) (l3 : Int), rr32 t_divisors → r32 t_divisorsSize → r32 l1 → r32 l2 → r32 l3 → wp_X5_listSquareDivisors_15 Q n t_divisors t_divisorsSize l1 l2 l3 → Wat X 0 0 15 [(0, .ref hX5), (1, .int (i32 l1)), (2, .int (i32 l2)), (3, .int (i32 l3))] [] [(hX5, .inr (4, [.ref aX5_lesser, .ref aX5_divisors, .int (i32 t_divisorsSize), .int (i32 t_size), .int (i32 t_listedP), .int (i32 t_listedQ)])), (aX5_divisors, aI X.cI 1100 t_divisors)] := by
  intro n
  induction n with
  | zero => intro t_divisors t_divisorsSize l1 l2 l3 r_t_divisors r_t_divisorsSize r_l1 r_l2 r_l3 h; exact False.elim h
  | succ n ih =>
    intro t_divisors t_divisorsSize l1 l2 l3 r_t_divisors r_t_divisorsSize r_l1 r_l2 r_l3 h
    rw [wp_X5_listSquareDivisors_15] at h
    refine q_iload_n g 3 3 rfl dX5_listSquareDivisors_15 ?_
    refine q_iload_n g 2 2 rfl dX5_listSquareDivisors_16 ?_
    refine q_iload_n g 3 3 rfl dX5_listSquareDivisors_17 ?_
    obtain ⟨c18, h⟩ := h
    refine q_idiv g r_l2 r_l3 (ne_of_pos c18) dX5_listSquareDivisors_18 ?_
    refine q_icmp_gt g (49) 68 r_l3 (r32_tdiv r_l2 c18) (by decide) dX5_listSquareDivisors_19 (fun b19 => ?_) (fun b19 => ?_)
    · replace h := h.1 b19
      refine q_iload_n g 2 2 rfl dX5_listSquareDivisors_68 ?_
      refine q_iconst g (1) dX5_listSquareDivisors_69 ?_
      refine q_icmp_le g (10) 80 r_l2 (r32_lit _ (by decide)) (by decide) dX5_listSquareDivisors_70 (fun b70 => ?_) (fun b70 => ?_)
      · replace h := h.1 b70
        refine q_lv (lv' := []) [] rfl ?_
        exact s_X5_listSquareDivisors_80 g hR hX5 aX5_lesser aX5_divisors t_size t_listedP t_listedQ Q hF t_divisors t_divisorsSize r_t_divisors r_t_divisorsSize h
      replace h := h.2 b70
      refine q_aload_n g 0 0 rfl dX5_listSquareDivisors_73 ?_
      refine q_iload_n g 2 2 rfl dX5_listSquareDivisors_74 ?_
      refine q_iconst g (2) dX5_listSquareDivisors_75 ?_
      refine q_iload_n g 1 1 rfl dX5_listSquareDivisors_76 ?_
      refine q_callV (lev := 2) (mc := 0) (ms := 0) g 54 (c_X5_multiplyDivisors X.l X.D X.cI X.cJ X.zt hX5 aX5_lesser aX5_divisors t_divisorsSize t_size t_listedP t_listedQ t_divisors l2 2 l1 _ r_t_divisors r_t_divisorsSize r_l2 (r32_lit _ (by decide)) r_l1 h) (wr := []) [0, 1] [] rfl rfl rfl (by decide) (by decide) (by decide) (ci := 4) rfl rfl rfl wM_X5_54 wI_X5_multiplyDivisors wS_X5_multiplyDivisors wZ_X5 wC_X5_multiplyDivisors 3 rfl (by decide +kernel) (by rw [hR]; exact ⟨by show 2 + 1 ≤ 3; omega, by show 8 + (8 + 11) + 100 * 2 ≤ 100 * 3; omega⟩) (by rw [hR]; exact ⟨Nat.le_refl _, Nat.le_refl _⟩) (Nat.le_of_ble_eq_true rfl) rfl dX5_listSquareDivisors_77 (fun rv w1 hq => ?_)
      obtain ⟨t_divisors_77, t_divisorsSize_77, rfl, rfl, rt_divisors_77, rt_divisorsSize_77, h⟩ := hq
      show Wat X 0 0 80 [(0, .ref hX5), (1, .int (i32 l1)), (2, .int (i32 l2)), (3, .int (i32 l3))] [] [(hX5, .inr (4, [.ref aX5_lesser, .ref aX5_divisors, .int (i32 t_divisorsSize_77), .int (i32 t_size), .int (i32 t_listedP), .int (i32 t_listedQ)])), (aX5_divisors, aI X.cI 1100 t_divisors_77)]
      refine q_lv (lv' := []) [] rfl ?_
      exact s_X5_listSquareDivisors_80 g hR hX5 aX5_lesser aX5_divisors t_size t_listedP t_listedQ Q hF t_divisors_77 t_divisorsSize_77 rt_divisors_77 rt_divisorsSize_77 h
    replace h := h.2 b19
    refine q_iconst g (0) dX5_listSquareDivisors_22 ?_
    refine q_istore (lv' := [(4, .int (i32 0)), (0, .ref hX5), (1, .int (i32 l1)), (2, .int (i32 l2)), (3, .int (i32 l3))]) g 4   (by decide) rfl dX5_listSquareDivisors_23 ?_
    refine q_iconst g (0) dX5_listSquareDivisors_25 ?_
    refine q_istore (lv' := [(5, .int (i32 0)), (4, .int (i32 0)), (0, .ref hX5), (1, .int (i32 l1)), (2, .int (i32 l2)), (3, .int (i32 l3))]) g 5   (by decide) rfl dX5_listSquareDivisors_26 ?_
    refine q_lv (lv' := [(0, .ref hX5), (1, .int (i32 l1)), (2, .int (i32 l2)), (3, .int (i32 l3)), (4, .int (i32 0)), (5, .int (i32 0))]) [2, 3, 4, 5, 1, 0] rfl ?_
    obtain ⟨n0, h⟩ := h
    exact s_X5_listSquareDivisors_28 g hR hX5 aX5_lesser aX5_divisors t_size t_listedP t_listedQ Q hF (wp_X5_listSquareDivisors_15 Q n) (fun v0 v1 v2 v3 v4 w0 w1 w2 w3 w4 hh => ih v0 v1 v2 v3 v4 w0 w1 w2 w3 w4 hh) n0 t_divisors t_divisorsSize l1 l2 l3 0 0 r_t_divisors r_t_divisorsSize r_l1 r_l2 r_l3 (r32_lit _ (by decide)) (r32_lit _ (by decide)) h
def wp_X5_listSquareDivisors (Q : (Int → Int) → Int → Prop) (t_divisors : Int → Int) (t_divisorsSize : Int) (l1 : Int) : Prop := wp_X5_addDivisor (fun (t_divisors_8 : Int → Int) (t_divisorsSize_8 : Int) => (∃ n0 : Nat, wp_X5_listSquareDivisors_15 Q n0 t_divisors_8 t_divisorsSize_8 l1 l1 2)) t_divisors 0 1 l1
set_option maxHeartbeats 4000000 in
set_option maxRecDepth 100000 in
theorem c_X5_listSquareDivisors (l : Launch) (D : va_G) (cI cJ : ClassId) (zt : Nat) (hX5 : Nat) (aX5_lesser : Nat) (aX5_divisors : Nat) (t_divisorsSize : Int) (t_size : Int) (t_listedP : Int) (t_listedQ : Int) (t_divisors : Int → Int) (l1 : Int) (Q : (Int → Int) → Int → Prop) (r_t_divisors : rr32 t_divisors) (r_t_divisorsSize : r32 t_divisorsSize) (r_l1 : r32 l1) (h : wp_X5_listSquareDivisors Q t_divisors t_divisorsSize l1) : Ct l D cI cJ zt yX5_listSquareDivisors cX5_listSquareDivisors 6 none 3 0 0 [.ref hX5, .int (i32 l1)] [(hX5, .inr (4, [.ref aX5_lesser, .ref aX5_divisors, .int (i32 t_divisorsSize), .int (i32 t_size), .int (i32 t_listedP), .int (i32 t_listedQ)])), (aX5_divisors, aI cI 1100 t_divisors)] (po_X5_listSquareDivisors cI cJ hX5 aX5_lesser aX5_divisors t_size t_listedP t_listedQ Q) := by
  refine ct_of (by decide +kernel) (Nat.le_of_ble_eq_true rfl) (fun X hl hDD hcI hcJ hzt hR hF hnm g => ?_)
  subst hl; subst hDD; subst hcI; subst hcJ; subst hzt
  show Wat X 0 0 0 [(0, .ref hX5), (1, .int (i32 l1))] [] [(hX5, .inr (4, [.ref aX5_lesser, .ref aX5_divisors, .int (i32 t_divisorsSize), .int (i32 t_size), .int (i32 t_listedP), .int (i32 t_listedQ)])), (aX5_divisors, aI X.cI 1100 t_divisors)]
  replace g : Gd X cX5_listSquareDivisors RX5 none 6 := g
  rw [wp_X5_listSquareDivisors] at h
  refine q_aload_n g 0 0 rfl dX5_listSquareDivisors_0 ?_
  refine q_iconst g (0) dX5_listSquareDivisors_1 ?_
  refine q_put (C := RX5) (T := TX5) (N := 6) (ty := .int) (ws' := [(hX5, .inr (4, [.ref aX5_lesser, .ref aX5_divisors, .int (i32 0), .int (i32 t_size), .int (i32 t_listedP), .int (i32 t_listedQ)])), (aX5_divisors, aI X.cI 1100 t_divisors)]) g 47 inX5 tyX5_ok nmX5 0 2 rfl rfl (by decide) wF_X5_47 rfl rfl rfl rfl (Nat.le_of_ble_eq_true rfl) rfl dX5_listSquareDivisors_2 ?_
  refine q_aload_n g 0 0 rfl dX5_listSquareDivisors_5 ?_
  refine q_lconst g 1 1 rfl dX5_listSquareDivisors_6 ?_
  refine q_iload_n g 1 1 rfl dX5_listSquareDivisors_7 ?_
  refine q_callV (lev := 1) (mc := 0) (ms := 0) g 50 (c_X5_addDivisor X.l X.D X.cI X.cJ X.zt hX5 aX5_lesser aX5_divisors 0 t_size t_listedP t_listedQ t_divisors 1 l1 _ r_t_divisors (r32_lit _ (by decide)) (r64_lit _ (by decide)) r_l1 h) (wr := []) [0, 1] [] rfl rfl rfl (by decide) (by decide) (by decide) (ci := 4) rfl rfl rfl wM_X5_50 wI_X5_addDivisor wS_X5_addDivisor wZ_X5 wC_X5_addDivisor 2 rfl (by decide +kernel) (by rw [hR]; exact ⟨by show 1 + 1 ≤ 3; omega, by show 8 + (4 + 11) + 100 * 1 ≤ 100 * 3; omega⟩) (by rw [hR]; exact ⟨Nat.le_refl _, Nat.le_refl _⟩) (Nat.le_of_ble_eq_true rfl) rfl dX5_listSquareDivisors_8 (fun rv w1 hq => ?_)
  obtain ⟨t_divisors_8, t_divisorsSize_8, rfl, rfl, rt_divisors_8, rt_divisorsSize_8, h⟩ := hq
  show Wat X 0 0 11 [(0, .ref hX5), (1, .int (i32 l1))] [] [(hX5, .inr (4, [.ref aX5_lesser, .ref aX5_divisors, .int (i32 t_divisorsSize_8), .int (i32 t_size), .int (i32 t_listedP), .int (i32 t_listedQ)])), (aX5_divisors, aI X.cI 1100 t_divisors_8)]
  refine q_iload_n g 1 1 rfl dX5_listSquareDivisors_11 ?_
  refine q_istore_n (lv' := [(2, .int (i32 l1)), (0, .ref hX5), (1, .int (i32 l1))]) g 2 2 rfl (by decide) rfl dX5_listSquareDivisors_12 ?_
  refine q_iconst g (2) dX5_listSquareDivisors_13 ?_
  refine q_istore_n (lv' := [(3, .int (i32 2)), (2, .int (i32 l1)), (0, .ref hX5), (1, .int (i32 l1))]) g 3 3 rfl (by decide) rfl dX5_listSquareDivisors_14 ?_
  refine q_lv (lv' := [(0, .ref hX5), (1, .int (i32 l1)), (2, .int (i32 l1)), (3, .int (i32 2))]) [2, 3, 1, 0] rfl ?_
  obtain ⟨n0, h⟩ := h
  exact s_X5_listSquareDivisors_15 g hR hX5 aX5_lesser aX5_divisors t_size t_listedP t_listedQ Q hF n0 t_divisors_8 t_divisorsSize_8 l1 l1 2 rt_divisors_8 rt_divisorsSize_8 r_l1 r_l1 (r32_lit _ (by decide)) h
theorem dX5_countPairsBehind_0 : decode cX5_countPairsBehind 0 = .ok (.aload_n 0, 1) := by decide +kernel
theorem dX5_countPairsBehind_1 : decode cX5_countPairsBehind 1 = .ok (.iload_n 3, 1) := by decide +kernel
theorem dX5_countPairsBehind_2 : decode cX5_countPairsBehind 2 = .ok (.invokevirtual 43, 3) := by decide +kernel
theorem dX5_countPairsBehind_5 : decode cX5_countPairsBehind 5 = .ok (.iconst 0, 1) := by decide +kernel
theorem dX5_countPairsBehind_6 : decode cX5_countPairsBehind 6 = .ok (.istore 4, 2) := by decide +kernel
theorem dX5_countPairsBehind_8 : decode cX5_countPairsBehind 8 = .ok (.iconst 0, 1) := by decide +kernel
theorem dX5_countPairsBehind_9 : decode cX5_countPairsBehind 9 = .ok (.istore 5, 2) := by decide +kernel
theorem dX5_countPairsBehind_11 : decode cX5_countPairsBehind 11 = .ok (.iload 5, 2) := by decide +kernel
theorem dX5_countPairsBehind_13 : decode cX5_countPairsBehind 13 = .ok (.aload_n 0, 1) := by decide +kernel
theorem dX5_countPairsBehind_14 : decode cX5_countPairsBehind 14 = .ok (.getfield 47, 3) := by decide +kernel
theorem dX5_countPairsBehind_17 : decode cX5_countPairsBehind 17 = .ok (.if_icmp .ge 44, 3) := by decide +kernel
theorem dX5_countPairsBehind_20 : decode cX5_countPairsBehind 20 = .ok (.aload_n 0, 1) := by decide +kernel
theorem dX5_countPairsBehind_21 : decode cX5_countPairsBehind 21 = .ok (.getfield 13, 3) := by decide +kernel
theorem dX5_countPairsBehind_24 : decode cX5_countPairsBehind 24 = .ok (.iload 5, 2) := by decide +kernel
theorem dX5_countPairsBehind_26 : decode cX5_countPairsBehind 26 = .ok (.iaload, 1) := by decide +kernel
theorem dX5_countPairsBehind_27 : decode cX5_countPairsBehind 27 = .ok (.istore 6, 2) := by decide +kernel
theorem dX5_countPairsBehind_29 : decode cX5_countPairsBehind 29 = .ok (.iload 6, 2) := by decide +kernel
theorem dX5_countPairsBehind_31 : decode cX5_countPairsBehind 31 = .ok (.iload_n 2, 1) := by decide +kernel
theorem dX5_countPairsBehind_32 : decode cX5_countPairsBehind 32 = .ok (.iload_n 1, 1) := by decide +kernel
theorem dX5_countPairsBehind_33 : decode cX5_countPairsBehind 33 = .ok (.imul, 1) := by decide +kernel
theorem dX5_countPairsBehind_34 : decode cX5_countPairsBehind 34 = .ok (.iload_n 3, 1) := by decide +kernel
theorem dX5_countPairsBehind_35 : decode cX5_countPairsBehind 35 = .ok (.isub, 1) := by decide +kernel
theorem dX5_countPairsBehind_36 : decode cX5_countPairsBehind 36 = .ok (.if_icmp .le 19, 3) := by decide +kernel
theorem dX5_countPairsBehind_39 : decode cX5_countPairsBehind 39 = .ok (.iload_n 2, 1) := by decide +kernel
theorem dX5_countPairsBehind_40 : decode cX5_countPairsBehind 40 = .ok (.ifCond .le 15, 3) := by decide +kernel
theorem dX5_countPairsBehind_43 : decode cX5_countPairsBehind 43 = .ok (.iload 6, 2) := by decide +kernel
theorem dX5_countPairsBehind_45 : decode cX5_countPairsBehind 45 = .ok (.iload_n 3, 1) := by decide +kernel
theorem dX5_countPairsBehind_46 : decode cX5_countPairsBehind 46 = .ok (.iadd, 1) := by decide +kernel
theorem dX5_countPairsBehind_47 : decode cX5_countPairsBehind 47 = .ok (.iload_n 2, 1) := by decide +kernel
theorem dX5_countPairsBehind_48 : decode cX5_countPairsBehind 48 = .ok (.irem, 1) := by decide +kernel
theorem dX5_countPairsBehind_49 : decode cX5_countPairsBehind 49 = .ok (.ifCond .ne 6, 3) := by decide +kernel
theorem dX5_countPairsBehind_52 : decode cX5_countPairsBehind 52 = .ok (.iinc 4 1, 3) := by decide +kernel
theorem dX5_countPairsBehind_55 : decode cX5_countPairsBehind 55 = .ok (.iinc 5 1, 3) := by decide +kernel
theorem dX5_countPairsBehind_58 : decode cX5_countPairsBehind 58 = .ok (.goto (-47), 3) := by decide +kernel
theorem dX5_countPairsBehind_61 : decode cX5_countPairsBehind 61 = .ok (.iload 4, 2) := by decide +kernel
theorem dX5_countPairsBehind_63 : decode cX5_countPairsBehind 63 = .ok (.ireturn, 1) := by decide +kernel
abbrev po_X5_countPairsBehind (cI cJ : ClassId) (hX5 : Nat) (aX5_lesser : Nat) (aX5_divisors : Nat) (t_size : Int) (t_listedP : Int) (t_listedQ : Int) (Q : Int → (Int → Int) → Int → Prop) : Option Value → va_W → Prop := fun rv w1 => ∃ (r0 : Int) (t_divisors : Int → Int) (t_divisorsSize : Int), rv = some (.int (i32 r0)) ∧ w1 = [(hX5, .inr (4, [.ref aX5_lesser, .ref aX5_divisors, .int (i32 t_divisorsSize), .int (i32 t_size), .int (i32 t_listedP), .int (i32 t_listedQ)])), (aX5_divisors, aI cI 1100 t_divisors)] ∧ r32 r0 ∧ rr32 t_divisors ∧ r32 t_divisorsSize ∧ Q r0 t_divisors t_divisorsSize
def wp_X5_countPairsBehind_55 (Q : Int → (Int → Int) → Int → Prop) (K_11 : (Int → Int) → Int → Int → Int → Int → Int → Int → Prop) (t_divisors : Int → Int) (t_divisorsSize : Int) (l1 : Int) (l2 : Int) (l3 : Int) (l4 : Int) (l5 : Int) : Prop := (r32 (l5 + 1) ∧ K_11 t_divisors t_divisorsSize l1 l2 l3 l4 (l5 + 1))
set_option maxHeartbeats 4000000 in
set_option maxRecDepth 100000 in
theorem s_X5_countPairsBehind_55 {X : Cx} (g : Gd X cX5_countPairsBehind RX5 (some .int) 7) (hR : X.R = rmL 4 0 0) (hX5 : Nat) (aX5_lesser : Nat) (aX5_divisors : Nat) (t_size : Int) (t_listedP : Int) (t_listedQ : Int) (Q : Int → (Int → Int) → Int → Prop) (hF : FQ X 0 0 (po_X5_countPairsBehind X.cI X.cJ hX5 aX5_lesser aX5_divisors t_size t_listedP t_listedQ Q)) (K_11 : (Int → Int) → Int → Int → Int → Int → Int → Int → Prop) (hK_11 : ∀ (t_divisors : Int → Int) (t_divisorsSize : Int) (l1 : Int) (l2 : Int) (l3 : Int) (l4 : Int) (l5 : Int), rr32 t_divisors → r32 t_divisorsSize → r32 l1 → r32 l2 → r32 l3 → r32 l4 → r32 l5 → K_11 t_divisors t_divisorsSize l1 l2 l3 l4 l5 → Wat X 0 0 11 [(0, .ref hX5), (1, .int (i32 l1)), (2, .int (i32 l2)), (3, .int (i32 l3)), (4, .int (i32 l4)), (5, .int (i32 l5))] [] [(hX5, .inr (4, [.ref aX5_lesser, .ref aX5_divisors, .int (i32 t_divisorsSize), .int (i32 t_size), .int (i32 t_listedP), .int (i32 t_listedQ)])), (aX5_divisors, aI X.cI 1100 t_divisors)]) : ∀ (t_divisors : Int → Int) (t_divisorsSize : Int) (l1 : Int) (l2 : Int) (l3 : Int) (l4 : Int) (l5 : Int), rr32 t_divisors → r32 t_divisorsSize → r32 l1 → r32 l2 → r32 l3 → r32 l4 → r32 l5 → wp_X5_countPairsBehind_55 Q K_11 t_divisors t_divisorsSize l1 l2 l3 l4 l5 → Wat X 0 0 55 [(0, .ref hX5), (1, .int (i32 l1)), (2, .int (i32 l2)), (3, .int (i32 l3)), (4, .int (i32 l4)), (5, .int (i32 l5))] [] [(hX5, .inr (4, [.ref aX5_lesser, .ref aX5_divisors, .int (i32 t_divisorsSize), .int (i32 t_size), .int (i32 t_listedP), .int (i32 t_listedQ)])), (aX5_divisors, aI X.cI 1100 t_divisors)] := by
  intro t_divisors t_divisorsSize l1 l2 l3 l4 l5 r_t_divisors r_t_divisorsSize r_l1 r_l2 r_l3 r_l4 r_l5 h
  rw [wp_X5_countPairsBehind_55] at h
  obtain ⟨c55, h⟩ := h
  refine q_iinc (lv' := [(5, .int (i32 (l5 + 1))), (0, .ref hX5), (1, .int (i32 l1)), (2, .int (i32 l2)), (3, .int (i32 l3)), (4, .int (i32 l4))]) g 5 5 1 (by decide) rfl rfl dX5_countPairsBehind_55 ?_
  refine q_goto g (-47) 11 (by decide) dX5_countPairsBehind_58 ?_
  refine q_lv (lv' := [(0, .ref hX5), (1, .int (i32 l1)), (2, .int (i32 l2)), (3, .int (i32 l3)), (4, .int (i32 l4)), (5, .int (i32 (l5 + 1)))]) [1, 2, 3, 4, 5, 0] rfl ?_
  exact hK_11 t_divisors t_divisorsSize l1 l2 l3 l4 (l5 + 1) r_t_divisors r_t_divisorsSize r_l1 r_l2 r_l3 r_l4 c55 h
def wp_X5_countPairsBehind_11 (Q : Int → (Int → Int) → Int → Prop) : Nat → (Int → Int) → Int → Int → Int → Int → Int → Int → Prop
  | 0, _, _, _, _, _, _, _ => False
  | n + 1, t_divisors, t_divisorsSize, l1, l2, l3, l4, l5 => ((t_divisorsSize ≤ l5 → Q l4 t_divisors t_divisorsSize) ∧
  (¬ (t_divisorsSize ≤ l5) → (0 ≤ l5 ∧ l5 < 1100 ∧ ∀ x27 : Int, x27 = (t_divisors l5) → r32 (l2 * l1) ∧ r32 ((l2 * l1) - l3) ∧ ((x27 ≤ ((l2 * l1) - l3) → wp_X5_countPairsBehind_55 Q (wp_X5_countPairsBehind_11 Q n) t_divisors t_divisorsSize l1 l2 l3 l4 l5) ∧
  (¬ (x27 ≤ ((l2 * l1) - l3)) → ((l2 ≤ 0 → wp_X5_countPairsBehind_55 Q (wp_X5_countPairsBehind_11 Q n) t_divisors t_divisorsSize l1 l2 l3 l4 l5) ∧
  (¬ (l2 ≤ 0) → (r32 (x27 + l3) ∧ 0 < l2 ∧ ((¬ (Int.tmod (x27 + l3) l2) = 0 → wp_X5_countPairsBehind_55 Q (wp_X5_countPairsBehind_11 Q n) t_divisors t_divisorsSize l1 l2 l3 l4 l5) ∧
  ((Int.tmod (x27 + l3) l2) = 0 → (r32 (l4 + 1) ∧ wp_X5_countPairsBehind_55 Q (wp_X5_countPairsBehind_11 Q n) t_divisors t_divisorsSize l1 l2 l3 (l4 + 1) l5)))))))))))
set_option maxHeartbeats 4000000 in
set_option maxRecDepth 100000 in
theorem s_X5_countPairsBehind_11 {X : Cx} (g : Gd X cX5_countPairsBehind RX5 (some .int) 7) (hR : X.R = rmL 4 0 0) (hX5 : Nat) (aX5_lesser : Nat) (aX5_divisors : Nat) (t_size : Int) (t_listedP : Int) (t_listedQ : Int) (Q : Int → (Int → Int) → Int → Prop) (hF : FQ X 0 0 (po_X5_countPairsBehind X.cI X.cJ hX5 aX5_lesser aX5_divisors t_size t_listedP t_listedQ Q)) : ∀ (n : Nat) (t_divisors : Int → Int) (t_divisorsSize : Int) (l1 : Int) (l2 : Int) (l3 : Int) (l4 : Int) (l5 : Int), rr32 t_divisors → r32 t_divisorsSize → r32 l1 → r32 l2 → r32 l3 → r32 l4 → r32 l5 → wp_X5_countPairsBehind_11 Q n t_divisors t_divisorsSize l1 l2 l3 l4 l5 → Wat X 0 0 11 [(0, .ref hX5), (1, .int (i32 l1)), (2, .int (i32 l2)), (3, .int (i32 l3)), (4, .int (i32 l4)), (5, .int (i32 l5))] [] [(hX5, .inr (4, [.ref aX5_lesser, .ref aX5_divisors, .int (i32 t_divisorsSize), .int (i32 t_size), .int (i32 t_listedP), .int (i32 t_listedQ)])), (aX5_divisors, aI X.cI 1100 t_divisors)] := by
  intro n
  induction n with
  | zero => intro t_divisors t_divisorsSize l1 l2 l3 l4 l5 r_t_divisors r_t_divisorsSize r_l1 r_l2 r_l3 r_l4 r_l5 h; exact False.elim h
  | succ n ih =>
    intro t_divisors t_divisorsSize l1 l2 l3 l4 l5 r_t_divisors r_t_divisorsSize r_l1 r_l2 r_l3 r_l4 r_l5 h
    rw [wp_X5_countPairsBehind_11] at h
    refine q_iload g 5 5 rfl dX5_countPairsBehind_11 ?_
    refine q_aload_n g 0 0 rfl dX5_countPairsBehind_13 ?_
    refine q_get (C := RX5) (T := TX5) (N := 6) g 47 inX5 0 2 rfl rfl (by decide) wF_X5_47 rfl dX5_countPairsBehind_14 ?_
    refine q_icmp_ge g (44) 61 r_l5 r_t_divisorsSize (by decide) dX5_countPairsBehind_17 (fun b17 => ?_) (fun b17 => ?_)
    · replace h := h.1 b17
      refine q_iload g 4 4 rfl dX5_countPairsBehind_61 ?_
      exact q_iret g hF ⟨l4, t_divisors, t_divisorsSize, rfl, rfl, r_l4, r_t_divisors, r_t_divisorsSize, h⟩ dX5_countPairsBehind_63
    replace h := h.2 b17
    refine q_aload_n g 0 0 rfl dX5_countPairsBehind_20 ?_
    refine q_get (C := RX5) (T := TX5) (N := 6) g 13 inX5 0 1 rfl rfl (by decide) wF_X5_13 rfl dX5_countPairsBehind_21 ?_
    refine q_iload g 5 5 rfl dX5_countPairsBehind_24 ?_
    obtain ⟨c26, h⟩ := h
    obtain ⟨e26, h⟩ := h
    refine q_iald g 1 rfl c26 e26 (by decide) dX5_countPairsBehind_26 ?_
    refine q_topi (r_t_divisors _) (fun x27 ex27 rx27 => ?_)
    replace h := h x27 ex27
    refine q_istore (lv' := [(6, .int (i32 x27)), (0, .ref hX5), (1, .int (i32 l1)), (2, .int (i32 l2)), (3, .int (i32 l3)), (4, .int (i32 l4)), (5, .int (i32 l5))]) g 6   (by decide) rfl dX5_countPairsBehind_27 ?_
    refine q_iload g 6 0 rfl dX5_countPairsBehind_29 ?_
    refine q_iload_n g 2 3 rfl dX5_countPairsBehind_31 ?_
    refine q_iload_n g 1 2 rfl dX5_countPairsBehind_32 ?_
    obtain ⟨c33, h⟩ := h
    refine q_imul g dX5_countPairsBehind_33 ?_
    refine q_iload_n g 3 4 rfl dX5_countPairsBehind_34 ?_
    obtain ⟨c35, h⟩ := h
    refine q_isub g dX5_countPairsBehind_35 ?_
    refine q_icmp_le g (19) 55 rx27 c35 (by decide) dX5_countPairsBehind_36 (fun b36 => ?_) (fun b36 => ?_)
    · replace h := h.1 b36
      refine q_lv (lv' := [(0, .ref hX5), (1, .int (i32 l1)), (2, .int (i32 l2)), (3, .int (i32 l3)), (4, .int (i32 l4)), (5, .int (i32 l5))]) [1, 2, 3, 4, 5, 6] rfl ?_
      exact s_X5_countPairsBehind_55 g hR hX5 aX5_lesser aX5_divisors t_size t_listedP t_listedQ Q hF (wp_X5_countPairsBehind_11 Q n) (fun v0 v1 v2 v3 v4 v5 v6 w0 w1 w2 w3 w4 w5 w6 hh => ih v0 v1 v2 v3 v4 v5 v6 w0 w1 w2 w3 w4 w5 w6 hh) t_divisors t_divisorsSize l1 l2 l3 l4 l5 r_t_divisors r_t_divisorsSize r_l1 r_l2 r_l3 r_l4 r_l5 h
    replace h := h.2 b36
    refine q_iload_n g 2 3 rfl dX5_countPairsBehind_39 ?_
    refine q_if_le g (15) 55 r_l2 (by decide) dX5_countPairsBehind_40 (fun b40 => ?_) (fun b40 => ?_)
    · replace h := h.1 b40
      refine q_lv (lv' := [(0, .ref hX5), (1, .int (i32 l1)), (2, .int (i32 l2)), (3, .int (i32 l3)), (4, .int (i32 l4)), (5, .int (i32 l5))]) [1, 2, 3, 4, 5, 6] rfl ?_
      exact s_X5_countPairsBehind_55 g hR hX5 aX5_lesser aX5_divisors t_size t_listedP t_listedQ Q hF (wp_X5_countPairsBehind_11 Q n) (fun v0 v1 v2 v3 v4 v5 v6 w0 w1 w2 w3 w4 w5 w6 hh => ih v0 v1 v2 v3 v4 v5 v6 w0 w1 w2 w3 w4 w5 w6 hh) t_divisors t_divisorsSize l1 l2 l3 l4 l5 r_t_divisors r_t_divisorsSize r_l1 r_l2 r_l3 r_l4 r_l5 h
    replace h := h.2 b40
    refine q_iload g 6 0 rfl dX5_countPairsBehind_43 ?_
    refine q_iload_n g 3 4 rfl dX5_countPairsBehind_45 ?_
    obtain ⟨c46, h⟩ := h
    refine q_iadd g dX5_countPairsBehind_46 ?_
    refine q_iload_n g 2 3 rfl dX5_countPairsBehind_47 ?_
    obtain ⟨c48, h⟩ := h
    refine q_irem g c46 r_l2 (ne_of_pos c48) dX5_countPairsBehind_48 ?_
    refine q_if_ne g (6) 55 (r32_tmod c46 r_l2 (ne_of_pos c48)) (by decide) dX5_countPairsBehind_49 (fun b49 => ?_) (fun b49 => ?_)
    · replace h := h.1 b49
      refine q_lv (lv' := [(0, .ref hX5), (1, .int (i32 l1)), (2, .int (i32 l2)), (3, .int (i32 l3)), (4, .int (i32 l4)), (5, .int (i32 l5))]) [1, 2, 3, 4, 5, 6] rfl ?_
      exact s_X5_countPairsBehind_55 g hR hX5 aX5_lesser aX5_divisors t_size t_listedP t_listedQ Q hF (wp_X5_countPairsBehind_11 Q n) (fun v0 v1 v2 v3 v4 v5 v6 w0 w1 w2 w3 w4 w5 w6 hh => ih v0 v1 v2 v3 v4 v5 v6 w0 w1 w2 w3 w4 w5 w6 hh) t_divisors t_divisorsSize l1 l2 l3 l4 l5 r_t_divisors r_t_divisorsSize r_l1 r_l2 r_l3 r_l4 r_l5 h
    replace h := h.2 b49
    obtain ⟨c52, h⟩ := h
    refine q_iinc (lv' := [(4, .int (i32 (l4 + 1))), (6, .int (i32 x27)), (0, .ref hX5), (1, .int (i32 l1)), (2, .int (i32 l2)), (3, .int (i32 l3)), (5, .int (i32 l5))]) g 4 5 1 (by decide) rfl rfl dX5_countPairsBehind_52 ?_
    refine q_lv (lv' := [(0, .ref hX5), (1, .int (i32 l1)), (2, .int (i32 l2)), (3, .int (i32 l3)), (4, .int (i32 (l4 + 1))), (5, .int (i32 l5))]) [2, 3, 4, 5, 0, 6] rfl ?_
    exact s_X5_countPairsBehind_55 g hR hX5 aX5_lesser aX5_divisors t_size t_listedP t_listedQ Q hF (wp_X5_countPairsBehind_11 Q n) (fun v0 v1 v2 v3 v4 v5 v6 w0 w1 w2 w3 w4 w5 w6 hh => ih v0 v1 v2 v3 v4 v5 v6 w0 w1 w2 w3 w4 w5 w6 hh) t_divisors t_divisorsSize l1 l2 l3 (l4 + 1) l5 r_t_divisors r_t_divisorsSize r_l1 r_l2 r_l3 c52 r_l5 h
def wp_X5_countPairsBehind (Q : Int → (Int → Int) → Int → Prop) (t_divisors : Int → Int) (t_divisorsSize : Int) (l1 : Int) (l2 : Int) (l3 : Int) : Prop := wp_X5_listSquareDivisors (fun (t_divisors_2 : Int → Int) (t_divisorsSize_2 : Int) => (∃ n0 : Nat, wp_X5_countPairsBehind_11 Q n0 t_divisors_2 t_divisorsSize_2 l1 l2 l3 0 0)) t_divisors t_divisorsSize l3
set_option maxHeartbeats 4000000 in
set_option maxRecDepth 100000 in
theorem c_X5_countPairsBehind (l : Launch) (D : va_G) (cI cJ : ClassId) (zt : Nat) (hX5 : Nat) (aX5_lesser : Nat) (aX5_divisors : Nat) (t_divisorsSize : Int) (t_size : Int) (t_listedP : Int) (t_listedQ : Int) (t_divisors : Int → Int) (l1 : Int) (l2 : Int) (l3 : Int) (Q : Int → (Int → Int) → Int → Prop) (r_t_divisors : rr32 t_divisors) (r_t_divisorsSize : r32 t_divisorsSize) (r_l1 : r32 l1) (r_l2 : r32 l2) (r_l3 : r32 l3) (h : wp_X5_countPairsBehind Q t_divisors t_divisorsSize l1 l2 l3) : Ct l D cI cJ zt yX5_countPairsBehind cX5_countPairsBehind 7 (some .int) 4 0 0 [.ref hX5, .int (i32 l1), .int (i32 l2), .int (i32 l3)] [(hX5, .inr (4, [.ref aX5_lesser, .ref aX5_divisors, .int (i32 t_divisorsSize), .int (i32 t_size), .int (i32 t_listedP), .int (i32 t_listedQ)])), (aX5_divisors, aI cI 1100 t_divisors)] (po_X5_countPairsBehind cI cJ hX5 aX5_lesser aX5_divisors t_size t_listedP t_listedQ Q) := by
  refine ct_of (by decide +kernel) (Nat.le_of_ble_eq_true rfl) (fun X hl hDD hcI hcJ hzt hR hF hnm g => ?_)
  subst hl; subst hDD; subst hcI; subst hcJ; subst hzt
  show Wat X 0 0 0 [(0, .ref hX5), (1, .int (i32 l1)), (2, .int (i32 l2)), (3, .int (i32 l3))] [] [(hX5, .inr (4, [.ref aX5_lesser, .ref aX5_divisors, .int (i32 t_divisorsSize), .int (i32 t_size), .int (i32 t_listedP), .int (i32 t_listedQ)])), (aX5_divisors, aI X.cI 1100 t_divisors)]
  replace g : Gd X cX5_countPairsBehind RX5 (some .int) 7 := g
  rw [wp_X5_countPairsBehind] at h
  refine q_aload_n g 0 0 rfl dX5_countPairsBehind_0 ?_
  refine q_iload_n g 3 3 rfl dX5_countPairsBehind_1 ?_
  refine q_callV (lev := 3) (mc := 0) (ms := 0) g 43 (c_X5_listSquareDivisors X.l X.D X.cI X.cJ X.zt hX5 aX5_lesser aX5_divisors t_divisorsSize t_size t_listedP t_listedQ t_divisors l3 _ r_t_divisors r_t_divisorsSize r_l3 h) (wr := []) [0, 1] [] rfl rfl rfl (by decide) (by decide) (by decide) (ci := 4) rfl rfl rfl wM_X5_43 wI_X5_listSquareDivisors wS_X5_listSquareDivisors wZ_X5 wC_X5_listSquareDivisors 1 rfl (by decide +kernel) (by rw [hR]; exact ⟨by show 3 + 1 ≤ 4; omega, by show 8 + (6 + 11) + 100 * 3 ≤ 100 * 4; omega⟩) (by rw [hR]; exact ⟨Nat.le_refl _, Nat.le_refl _⟩) (Nat.le_of_ble_eq_true rfl) rfl dX5_countPairsBehind_2 (fun rv w1 hq => ?_)
  obtain ⟨t_divisors_2, t_divisorsSize_2, rfl, rfl, rt_divisors_2, rt_divisorsSize_2, h⟩ := hq
  show Wat X 0 0 5 [(0, .ref hX5), (1, .int (i32 l1)), (2, .int (i32 l2)), (3, .int (i32 l3))] [] [(hX5, .inr (4, [.ref aX5_lesser, .ref aX5_divisors, .int (i32 t_divisorsSize_2), .int (i32 t_size), .int (i32 t_listedP), .int (i32 t_listedQ)])), (aX5_divisors, aI X.cI 1100 t_divisors_2)]
  refine q_iconst g (0) dX5_countPairsBehind_5 ?_
  refine q_istore (lv' := [(4, .int (i32 0)), (0, .ref hX5), (1, .int (i32 l1)), (2, .int (i32 l2)), (3, .int (i32 l3))]) g 4   (by decide) rfl dX5_countPairsBehind_6 ?_
  refine q_iconst g (0) dX5_countPairsBehind_8 ?_
  refine q_istore (lv' := [(5, .int (i32 0)), (4, .int (i32 0)), (0, .ref hX5), (1, .int (i32 l1)), (2, .int (i32 l2)), (3, .int (i32 l3))]) g 5   (by decide) rfl dX5_countPairsBehind_9 ?_
  refine q_lv (lv' := [(0, .ref hX5), (1, .int (i32 l1)), (2, .int (i32 l2)), (3, .int (i32 l3)), (4, .int (i32 0)), (5, .int (i32 0))]) [2, 3, 4, 5, 1, 0] rfl ?_
  obtain ⟨n0, h⟩ := h
  exact s_X5_countPairsBehind_11 g hR hX5 aX5_lesser aX5_divisors t_size t_listedP t_listedQ Q hF n0 t_divisors_2 t_divisorsSize_2 l1 l2 l3 0 0 rt_divisors_2 rt_divisorsSize_2 r_l1 r_l2 r_l3 (r32_lit _ (by decide)) (r32_lit _ (by decide)) h
theorem dX5_countThrees_0 : decode cX5_countThrees 0 = .ok (.iload_n 1, 1) := by decide +kernel
theorem dX5_countThrees_1 : decode cX5_countThrees 1 = .ok (.iconst 1, 1) := by decide +kernel
theorem dX5_countThrees_2 : decode cX5_countThrees 2 = .ok (.if_icmp .ge 5, 3) := by decide +kernel
theorem dX5_countThrees_5 : decode cX5_countThrees 5 = .ok (.iconst 0, 1) := by decide +kernel
theorem dX5_countThrees_6 : decode cX5_countThrees 6 = .ok (.ireturn, 1) := by decide +kernel
theorem dX5_countThrees_7 : decode cX5_countThrees 7 = .ok (.iconst 0, 1) := by decide +kernel
theorem dX5_countThrees_8 : decode cX5_countThrees 8 = .ok (.istore_n 3, 1) := by decide +kernel
theorem dX5_countThrees_9 : decode cX5_countThrees 9 = .ok (.iload_n 2, 1) := by decide +kernel
theorem dX5_countThrees_10 : decode cX5_countThrees 10 = .ok (.iload_n 1, 1) := by decide +kernel
theorem dX5_countThrees_11 : decode cX5_countThrees 11 = .ok (.idiv, 1) := by decide +kernel
theorem dX5_countThrees_12 : decode cX5_countThrees 12 = .ok (.iconst 1, 1) := by decide +kernel
theorem dX5_countThrees_13 : decode cX5_countThrees 13 = .ok (.iadd, 1) := by decide +kernel
theorem dX5_countThrees_14 : decode cX5_countThrees 14 = .ok (.istore 4, 2) := by decide +kernel
theorem dX5_countThrees_16 : decode cX5_countThrees 16 = .ok (.iload_n 1, 1) := by decide +kernel
theorem dX5_countThrees_17 : decode cX5_countThrees 17 = .ok (.iload 4, 2) := by decide +kernel
theorem dX5_countThrees_19 : decode cX5_countThrees 19 = .ok (.imul, 1) := by decide +kernel
theorem dX5_countThrees_20 : decode cX5_countThrees 20 = .ok (.iconst 3, 1) := by decide +kernel
theorem dX5_countThrees_21 : decode cX5_countThrees 21 = .ok (.iload_n 2, 1) := by decide +kernel
theorem dX5_countThrees_22 : decode cX5_countThrees 22 = .ok (.imul, 1) := by decide +kernel
theorem dX5_countThrees_23 : decode cX5_countThrees 23 = .ok (.if_icmp .ge 52, 3) := by decide +kernel
theorem dX5_countThrees_26 : decode cX5_countThrees 26 = .ok (.iload_n 1, 1) := by decide +kernel
theorem dX5_countThrees_27 : decode cX5_countThrees 27 = .ok (.iload 4, 2) := by decide +kernel
theorem dX5_countThrees_29 : decode cX5_countThrees 29 = .ok (.imul, 1) := by decide +kernel
theorem dX5_countThrees_30 : decode cX5_countThrees 30 = .ok (.iload_n 2, 1) := by decide +kernel
theorem dX5_countThrees_31 : decode cX5_countThrees 31 = .ok (.isub, 1) := by decide +kernel
theorem dX5_countThrees_32 : decode cX5_countThrees 32 = .ok (.istore 5, 2) := by decide +kernel
theorem dX5_countThrees_34 : decode cX5_countThrees 34 = .ok (.iload 5, 2) := by decide +kernel
theorem dX5_countThrees_36 : decode cX5_countThrees 36 = .ok (.i2l, 1) := by decide +kernel
theorem dX5_countThrees_37 : decode cX5_countThrees 37 = .ok (.iload_n 2, 1) := by decide +kernel
theorem dX5_countThrees_38 : decode cX5_countThrees 38 = .ok (.iload 4, 2) := by decide +kernel
theorem dX5_countThrees_40 : decode cX5_countThrees 40 = .ok (.imul, 1) := by decide +kernel
theorem dX5_countThrees_41 : decode cX5_countThrees 41 = .ok (.i2l, 1) := by decide +kernel
theorem dX5_countThrees_42 : decode cX5_countThrees 42 = .ok (.invokestatic 33, 3) := by decide +kernel
theorem dX5_countThrees_45 : decode cX5_countThrees 45 = .ok (.l2i, 1) := by decide +kernel
theorem dX5_countThrees_46 : decode cX5_countThrees 46 = .ok (.istore 6, 2) := by decide +kernel
theorem dX5_countThrees_48 : decode cX5_countThrees 48 = .ok (.iload_n 3, 1) := by decide +kernel
theorem dX5_countThrees_49 : decode cX5_countThrees 49 = .ok (.aload_n 0, 1) := by decide +kernel
theorem dX5_countThrees_50 : decode cX5_countThrees 50 = .ok (.iload 4, 2) := by decide +kernel
theorem dX5_countThrees_52 : decode cX5_countThrees 52 = .ok (.iload 5, 2) := by decide +kernel
theorem dX5_countThrees_54 : decode cX5_countThrees 54 = .ok (.iload 6, 2) := by decide +kernel
theorem dX5_countThrees_56 : decode cX5_countThrees 56 = .ok (.idiv, 1) := by decide +kernel
theorem dX5_countThrees_57 : decode cX5_countThrees 57 = .ok (.iload_n 2, 1) := by decide +kernel
theorem dX5_countThrees_58 : decode cX5_countThrees 58 = .ok (.iload 4, 2) := by decide +kernel
theorem dX5_countThrees_60 : decode cX5_countThrees 60 = .ok (.imul, 1) := by decide +kernel
theorem dX5_countThrees_61 : decode cX5_countThrees 61 = .ok (.iload 6, 2) := by decide +kernel
theorem dX5_countThrees_63 : decode cX5_countThrees 63 = .ok (.idiv, 1) := by decide +kernel
theorem dX5_countThrees_64 : decode cX5_countThrees 64 = .ok (.invokevirtual 39, 3) := by decide +kernel
theorem dX5_countThrees_67 : decode cX5_countThrees 67 = .ok (.iadd, 1) := by decide +kernel
theorem dX5_countThrees_68 : decode cX5_countThrees 68 = .ok (.istore_n 3, 1) := by decide +kernel
theorem dX5_countThrees_69 : decode cX5_countThrees 69 = .ok (.iinc 4 1, 3) := by decide +kernel
theorem dX5_countThrees_72 : decode cX5_countThrees 72 = .ok (.goto (-56), 3) := by decide +kernel
theorem dX5_countThrees_75 : decode cX5_countThrees 75 = .ok (.iload_n 3, 1) := by decide +kernel
theorem dX5_countThrees_76 : decode cX5_countThrees 76 = .ok (.ireturn, 1) := by decide +kernel
abbrev po_X5_countThrees (cI cJ : ClassId) (hX5 : Nat) (aX5_lesser : Nat) (aX5_divisors : Nat) (t_size : Int) (t_listedP : Int) (t_listedQ : Int) (Q : Int → (Int → Int) → Int → Prop) : Option Value → va_W → Prop := fun rv w1 => ∃ (r0 : Int) (t_divisors : Int → Int) (t_divisorsSize : Int), rv = some (.int (i32 r0)) ∧ w1 = [(hX5, .inr (4, [.ref aX5_lesser, .ref aX5_divisors, .int (i32 t_divisorsSize), .int (i32 t_size), .int (i32 t_listedP), .int (i32 t_listedQ)])), (aX5_divisors, aI cI 1100 t_divisors)] ∧ r32 r0 ∧ rr32 t_divisors ∧ r32 t_divisorsSize ∧ Q r0 t_divisors t_divisorsSize
def wp_X5_countThrees_16 (Q : Int → (Int → Int) → Int → Prop) : Nat → (Int → Int) → Int → Int → Int → Int → Int → Prop
  | 0, _, _, _, _, _, _ => False
  | n + 1, t_divisors, t_divisorsSize, l1, l2, l3, l4 => (r32 (l1 * l4) ∧ r32 (3 * l2) ∧ (((3 * l2) ≤ (l1 * l4) → Q l3 t_divisors t_divisorsSize) ∧
  (¬ ((3 * l2) ≤ (l1 * l4)) → (r32 (l1 * l4) ∧ r32 ((l1 * l4) - l2) ∧ ∀ x32 : Int, x32 = ((l1 * l4) - l2) → r32 (l2 * l4) ∧ wp_X7_commonDivisor (fun (x42 : Int) => (r32 x42 ∧ 0 < x42 ∧ r32 (l2 * l4) ∧ 0 < x42 ∧ wp_X5_countPairsBehind (fun (x64 : Int) (t_divisors_64 : Int → Int) (t_divisorsSize_64 : Int) => (r32 (l3 + x64) ∧ ∀ x68 : Int, x68 = (l3 + x64) → r32 (l4 + 1) ∧ wp_X5_countThrees_16 Q n t_divisors_64 t_divisorsSize_64 l1 l2 x68 (l4 + 1))) t_divisors t_divisorsSize l4 (x32.tdiv x42) (Int.tdiv (l2 * l4) x42))) x32 (l2 * l4)))))
set_option maxHeartbeats 4000000 in
set_option maxRecDepth 100000 in
theorem s_X5_countThrees_16 {X : Cx} (g : Gd X cX5_countThrees RX5 (some .int) 7) (hR : X.R = rmL 5 0 0) (hX5 : Nat) (aX5_lesser : Nat) (aX5_divisors : Nat) (t_size : Int) (t_listedP : Int) (t_listedQ : Int) (Q : Int → (Int → Int) → Int → Prop) (hF : FQ X 0 0 (po_X5_countThrees X.cI X.cJ hX5 aX5_lesser aX5_divisors t_size t_listedP t_listedQ Q)) : ∀ (n : Nat) (t_divisors : Int → Int) (t_divisorsSize : Int) (l1 : Int) (l2 : Int) (l3 : Int) (l4 : Int), rr32 t_divisors → r32 t_divisorsSize → r32 l1 → r32 l2 → r32 l3 → r32 l4 → wp_X5_countThrees_16 Q n t_divisors t_divisorsSize l1 l2 l3 l4 → Wat X 0 0 16 [(0, .ref hX5), (1, .int (i32 l1)), (2, .int (i32 l2)), (3, .int (i32 l3)), (4, .int (i32 l4))] [] [(hX5, .inr (4, [.ref aX5_lesser, .ref aX5_divisors, .int (i32 t_divisorsSize), .int (i32 t_size), .int (i32 t_listedP), .int (i32 t_listedQ)])), (aX5_divisors, aI X.cI 1100 t_divisors)] := by
  intro n
  induction n with
  | zero => intro t_divisors t_divisorsSize l1 l2 l3 l4 r_t_divisors r_t_divisorsSize r_l1 r_l2 r_l3 r_l4 h; exact False.elim h
  | succ n ih =>
    intro t_divisors t_divisorsSize l1 l2 l3 l4 r_t_divisors r_t_divisorsSize r_l1 r_l2 r_l3 r_l4 h
    rw [wp_X5_countThrees_16] at h
    refine q_iload_n g 1 1 rfl dX5_countThrees_16 ?_
    refine q_iload g 4 4 rfl dX5_countThrees_17 ?_
    obtain ⟨c19, h⟩ := h
    refine q_imul g dX5_countThrees_19 ?_
    refine q_iconst g (3) dX5_countThrees_20 ?_
    refine q_iload_n g 2 2 rfl dX5_countThrees_21 ?_
    obtain ⟨c22, h⟩ := h
    refine q_imul g dX5_countThrees_22 ?_
    refine q_icmp_ge g (52) 75 c19 c22 (by decide) dX5_countThrees_23 (fun b23 => ?_) (fun b23 => ?_)
    · replace h := h.1 b23
      refine q_iload_n g 3 3 rfl dX5_countThrees_75 ?_
      exact q_iret g hF ⟨l3, t_divisors, t_divisorsSize, rfl, rfl, r_l3, r_t_divisors, r_t_divisorsSize, h⟩ dX5_countThrees_76
    replace h := h.2 b23
    refine q_iload_n g 1 1 rfl dX5_countThrees_26 ?_
    refine q_iload g 4 4 rfl dX5_countThrees_27 ?_
    obtain ⟨c29, h⟩ := h
    refine q_imul g dX5_countThrees_29 ?_
    refine q_iload_n g 2 2 rfl dX5_countThrees_30 ?_
    obtain ⟨c31, h⟩ := h
    refine q_isub g dX5_countThrees_31 ?_
    refine q_topi c31 (fun x32 ex32 rx32 => ?_)
    replace h := h x32 ex32
    refine q_istore (lv' := [(5, .int (i32 x32)), (0, .ref hX5), (1, .int (i32 l1)), (2, .int (i32 l2)), (3, .int (i32 l3)), (4, .int (i32 l4))]) g 5   (by decide) rfl dX5_countThrees_32 ?_
    refine q_iload g 5 0 rfl dX5_countThrees_34 ?_
    refine q_i2l g rx32 dX5_countThrees_36 ?_
    refine q_iload_n g 2 3 rfl dX5_countThrees_37 ?_
    refine q_iload g 4 5 rfl dX5_countThrees_38 ?_
    obtain ⟨c40, h⟩ := h
    refine q_imul g dX5_countThrees_40 ?_
    refine q_i2l g c40 dX5_countThrees_41 ?_
    refine q_callSN (lev := 2) (mc := 0) (ms := 0) (As := [.long (i64 x32), .long (i64 (l2 * l4))]) (host := RX7) g 33 (c_X7_commonDivisor X.l X.D X.cI X.cJ X.zt x32 (l2 * l4) _ (r32_64 rx32) (r32_64 c40) h) (wr := [(hX5, .inr (4, [.ref aX5_lesser, .ref aX5_divisors, .int (i32 t_divisorsSize), .int (i32 t_size), .int (i32 t_listedP), .int (i32 t_listedQ)])), (aX5_divisors, aI X.cI 1100 t_divisors)]) [] [0, 1] rfl rfl rfl (by decide) (by decide) (by decide) (List.mem_of_getElem? (i := 11) rfl) wT_X7_commonDivisor wZ_X7 wC_X7_commonDivisor 2 rfl (by decide +kernel) (by rw [hR]; exact ⟨by show 2 + 1 ≤ 5; omega, by show 8 + (11 + 11) + 100 * 2 ≤ 100 * 5; omega⟩) (by rw [hR]; exact ⟨Nat.le_refl _, Nat.le_refl _⟩) (Nat.le_of_ble_eq_true rfl) rfl dX5_countThrees_42 (fun rv w1 hq => ?_)
    obtain ⟨x42, rfl, rfl, rx42, h⟩ := hq
    show Wat X 0 0 45 [(5, .int (i32 x32)), (0, .ref hX5), (1, .int (i32 l1)), (2, .int (i32 l2)), (3, .int (i32 l3)), (4, .int (i32 l4))] [.long (i64 x42)] [(hX5, .inr (4, [.ref aX5_lesser, .ref aX5_divisors, .int (i32 t_divisorsSize), .int (i32 t_size), .int (i32 t_listedP), .int (i32 t_listedQ)])), (aX5_divisors, aI X.cI 1100 t_divisors)]
    obtain ⟨c45, h⟩ := h
    refine q_l2i g dX5_countThrees_45 ?_
    refine q_istore (lv' := [(6, .int (i32 x42)), (5, .int (i32 x32)), (0, .ref hX5), (1, .int (i32 l1)), (2, .int (i32 l2)), (3, .int (i32 l3)), (4, .int (i32 l4))]) g 6   (by decide) rfl dX5_countThrees_46 ?_
    refine q_iload_n g 3 5 rfl dX5_countThrees_48 ?_
    refine q_aload_n g 0 2 rfl dX5_countThrees_49 ?_
    refine q_iload g 4 6 rfl dX5_countThrees_50 ?_
    refine q_iload g 5 1 rfl dX5_countThrees_52 ?_
    refine q_iload g 6 0 rfl dX5_countThrees_54 ?_
    obtain ⟨c56, h⟩ := h
    refine q_idiv g rx32 c45 (ne_of_pos c56) dX5_countThrees_56 ?_
    refine q_iload_n g 2 4 rfl dX5_countThrees_57 ?_
    refine q_iload g 4 6 rfl dX5_countThrees_58 ?_
    obtain ⟨c60, h⟩ := h
    refine q_imul g dX5_countThrees_60 ?_
    refine q_iload g 6 0 rfl dX5_countThrees_61 ?_
    obtain ⟨c63, h⟩ := h
    refine q_idiv g c60 c45 (ne_of_pos c63) dX5_countThrees_63 ?_
    refine q_callV (lev := 4) (mc := 0) (ms := 0) g 39 (c_X5_countPairsBehind X.l X.D X.cI X.cJ X.zt hX5 aX5_lesser aX5_divisors t_divisorsSize t_size t_listedP t_listedQ t_divisors l4 (x32.tdiv x42) (Int.tdiv (l2 * l4) x42) _ r_t_divisors r_t_divisorsSize r_l4 (r32_tdiv rx32 c56) (r32_tdiv c60 c63) h) (wr := []) [0, 1] [] rfl rfl rfl (by decide) (by decide) (by decide) (ci := 4) rfl rfl rfl wM_X5_39 wI_X5_countPairsBehind wS_X5_countPairsBehind wZ_X5 wC_X5_countPairsBehind 3 rfl (by decide +kernel) (by rw [hR]; exact ⟨by show 4 + 1 ≤ 5; omega, by show 8 + (7 + 11) + 100 * 4 ≤ 100 * 5; omega⟩) (by rw [hR]; exact ⟨Nat.le_refl _, Nat.le_refl _⟩) (Nat.le_of_ble_eq_true rfl) rfl dX5_countThrees_64 (fun rv w1 hq => ?_)
    obtain ⟨x64, t_divisors_64, t_divisorsSize_64, rfl, rfl, rx64, rt_divisors_64, rt_divisorsSize_64, h⟩ := hq
    show Wat X 0 0 67 [(6, .int (i32 x42)), (5, .int (i32 x32)), (0, .ref hX5), (1, .int (i32 l1)), (2, .int (i32 l2)), (3, .int (i32 l3)), (4, .int (i32 l4))] [.int (i32 x64), .int (i32 l3)] [(hX5, .inr (4, [.ref aX5_lesser, .ref aX5_divisors, .int (i32 t_divisorsSize_64), .int (i32 t_size), .int (i32 t_listedP), .int (i32 t_listedQ)])), (aX5_divisors, aI X.cI 1100 t_divisors_64)]
    obtain ⟨c67, h⟩ := h
    refine q_iadd g dX5_countThrees_67 ?_
    refine q_topi c67 (fun x68 ex68 rx68 => ?_)
    replace h := h x68 ex68
    refine q_istore_n (lv' := [(3, .int (i32 x68)), (6, .int (i32 x42)), (5, .int (i32 x32)), (0, .ref hX5), (1, .int (i32 l1)), (2, .int (i32 l2)), (4, .int (i32 l4))]) g 3 3 rfl (by decide) rfl dX5_countThrees_68 ?_
    obtain ⟨c69, h⟩ := h
    refine q_iinc (lv' := [(4, .int (i32 (l4 + 1))), (3, .int (i32 x68)), (6, .int (i32 x42)), (5, .int (i32 x32)), (0, .ref hX5), (1, .int (i32 l1)), (2, .int (i32 l2))]) g 4 6 1 (by decide) rfl rfl dX5_countThrees_69 ?_
    refine q_goto g (-56) 16 (by decide) dX5_countThrees_72 ?_
    refine q_lv (lv' := [(0, .ref hX5), (1, .int (i32 l1)), (2, .int (i32 l2)), (3, .int (i32 x68)), (4, .int (i32 (l4 + 1)))]) [4, 5, 6, 1, 0] rfl ?_
    exact ih t_divisors_64 t_divisorsSize_64 l1 l2 x68 (l4 + 1) rt_divisors_64 rt_divisorsSize_64 r_l1 r_l2 rx68 c69 h
def wp_X5_countThrees (Q : Int → (Int → Int) → Int → Prop) (t_divisors : Int → Int) (t_divisorsSize : Int) (l1 : Int) (l2 : Int) : Prop := ((1 ≤ l1 → (0 < l1 ∧ r32 ((l2.tdiv l1) + 1) ∧ ∀ x14 : Int, x14 = ((l2.tdiv l1) + 1) → (∃ n0 : Nat, wp_X5_countThrees_16 Q n0 t_divisors t_divisorsSize l1 l2 0 x14))) ∧
  (¬ (1 ≤ l1) → Q 0 t_divisors t_divisorsSize))
set_option maxHeartbeats 4000000 in
set_option maxRecDepth 100000 in
theorem c_X5_countThrees (l : Launch) (D : va_G) (cI cJ : ClassId) (zt : Nat) (hX5 : Nat) (aX5_lesser : Nat) (aX5_divisors : Nat) (t_divisorsSize : Int) (t_size : Int) (t_listedP : Int) (t_listedQ : Int) (t_divisors : Int → Int) (l1 : Int) (l2 : Int) (Q : Int → (Int → Int) → Int → Prop) (r_t_divisors : rr32 t_divisors) (r_t_divisorsSize : r32 t_divisorsSize) (r_l1 : r32 l1) (r_l2 : r32 l2) (h : wp_X5_countThrees Q t_divisors t_divisorsSize l1 l2) : Ct l D cI cJ zt yX5_countThrees cX5_countThrees 7 (some .int) 5 0 0 [.ref hX5, .int (i32 l1), .int (i32 l2)] [(hX5, .inr (4, [.ref aX5_lesser, .ref aX5_divisors, .int (i32 t_divisorsSize), .int (i32 t_size), .int (i32 t_listedP), .int (i32 t_listedQ)])), (aX5_divisors, aI cI 1100 t_divisors)] (po_X5_countThrees cI cJ hX5 aX5_lesser aX5_divisors t_size t_listedP t_listedQ Q) := by
  refine ct_of (by decide +kernel) (Nat.le_of_ble_eq_true rfl) (fun X hl hDD hcI hcJ hzt hR hF hnm g => ?_)
  subst hl; subst hDD; subst hcI; subst hcJ; subst hzt
  show Wat X 0 0 0 [(0, .ref hX5), (1, .int (i32 l1)), (2, .int (i32 l2))] [] [(hX5, .inr (4, [.ref aX5_lesser, .ref aX5_divisors, .int (i32 t_divisorsSize), .int (i32 t_size), .int (i32 t_listedP), .int (i32 t_listedQ)])), (aX5_divisors, aI X.cI 1100 t_divisors)]
  replace g : Gd X cX5_countThrees RX5 (some .int) 7 := g
  rw [wp_X5_countThrees] at h
  refine q_iload_n g 1 1 rfl dX5_countThrees_0 ?_
  refine q_iconst g (1) dX5_countThrees_1 ?_
  refine q_icmp_ge g (5) 7 r_l1 (r32_lit _ (by decide)) (by decide) dX5_countThrees_2 (fun b2 => ?_) (fun b2 => ?_)
  · replace h := h.1 b2
    refine q_iconst g (0) dX5_countThrees_7 ?_
    refine q_istore_n (lv' := [(3, .int (i32 0)), (0, .ref hX5), (1, .int (i32 l1)), (2, .int (i32 l2))]) g 3 3 rfl (by decide) rfl dX5_countThrees_8 ?_
    refine q_iload_n g 2 3 rfl dX5_countThrees_9 ?_
    refine q_iload_n g 1 2 rfl dX5_countThrees_10 ?_
    obtain ⟨c11, h⟩ := h
    refine q_idiv g r_l2 r_l1 (ne_of_pos c11) dX5_countThrees_11 ?_
    refine q_iconst g (1) dX5_countThrees_12 ?_
    obtain ⟨c13, h⟩ := h
    refine q_iadd g dX5_countThrees_13 ?_
    refine q_topi c13 (fun x14 ex14 rx14 => ?_)
    replace h := h x14 ex14
    refine q_istore (lv' := [(4, .int (i32 x14)), (3, .int (i32 0)), (0, .ref hX5), (1, .int (i32 l1)), (2, .int (i32 l2))]) g 4   (by decide) rfl dX5_countThrees_14 ?_
    refine q_lv (lv' := [(0, .ref hX5), (1, .int (i32 l1)), (2, .int (i32 l2)), (3, .int (i32 0)), (4, .int (i32 x14))]) [2, 3, 4, 1, 0] rfl ?_
    obtain ⟨n0, h⟩ := h
    exact s_X5_countThrees_16 g hR hX5 aX5_lesser aX5_divisors t_size t_listedP t_listedQ Q hF n0 t_divisors t_divisorsSize l1 l2 0 x14 r_t_divisors r_t_divisorsSize r_l1 r_l2 (r32_lit _ (by decide)) rx14 h
  replace h := h.2 b2
  refine q_iconst g (0) dX5_countThrees_5 ?_
  exact q_iret g hF ⟨0, t_divisors, t_divisorsSize, rfl, rfl, (r32_lit _ (by decide)), r_t_divisors, r_t_divisorsSize, h⟩ dX5_countThrees_6
theorem dX5_findPairs_0 : decode cX5_findPairs 0 = .ok (.iload_n 1, 1) := by decide +kernel
theorem dX5_findPairs_1 : decode cX5_findPairs 1 = .ok (.iconst 1, 1) := by decide +kernel
theorem dX5_findPairs_2 : decode cX5_findPairs 2 = .ok (.if_icmp .ge 4, 3) := by decide +kernel
theorem dX5_findPairs_5 : decode cX5_findPairs 5 = .ok (.return_, 1) := by decide +kernel
theorem dX5_findPairs_6 : decode cX5_findPairs 6 = .ok (.iload_n 2, 1) := by decide +kernel
theorem dX5_findPairs_7 : decode cX5_findPairs 7 = .ok (.iload_n 1, 1) := by decide +kernel
theorem dX5_findPairs_8 : decode cX5_findPairs 8 = .ok (.idiv, 1) := by decide +kernel
theorem dX5_findPairs_9 : decode cX5_findPairs 9 = .ok (.iconst 1, 1) := by decide +kernel
theorem dX5_findPairs_10 : decode cX5_findPairs 10 = .ok (.iadd, 1) := by decide +kernel
theorem dX5_findPairs_11 : decode cX5_findPairs 11 = .ok (.istore_n 3, 1) := by decide +kernel
theorem dX5_findPairs_12 : decode cX5_findPairs 12 = .ok (.iload_n 1, 1) := by decide +kernel
theorem dX5_findPairs_13 : decode cX5_findPairs 13 = .ok (.iload_n 3, 1) := by decide +kernel
theorem dX5_findPairs_14 : decode cX5_findPairs 14 = .ok (.imul, 1) := by decide +kernel
theorem dX5_findPairs_15 : decode cX5_findPairs 15 = .ok (.iconst 2, 1) := by decide +kernel
theorem dX5_findPairs_16 : decode cX5_findPairs 16 = .ok (.iload_n 2, 1) := by decide +kernel
theorem dX5_findPairs_17 : decode cX5_findPairs 17 = .ok (.imul, 1) := by decide +kernel
theorem dX5_findPairs_18 : decode cX5_findPairs 18 = .ok (.if_icmp .ge 53, 3) := by decide +kernel
theorem dX5_findPairs_21 : decode cX5_findPairs 21 = .ok (.iload_n 2, 1) := by decide +kernel
theorem dX5_findPairs_22 : decode cX5_findPairs 22 = .ok (.iload_n 3, 1) := by decide +kernel
theorem dX5_findPairs_23 : decode cX5_findPairs 23 = .ok (.imul, 1) := by decide +kernel
theorem dX5_findPairs_24 : decode cX5_findPairs 24 = .ok (.iload_n 1, 1) := by decide +kernel
theorem dX5_findPairs_25 : decode cX5_findPairs 25 = .ok (.iload_n 3, 1) := by decide +kernel
theorem dX5_findPairs_26 : decode cX5_findPairs 26 = .ok (.imul, 1) := by decide +kernel
theorem dX5_findPairs_27 : decode cX5_findPairs 27 = .ok (.iload_n 2, 1) := by decide +kernel
theorem dX5_findPairs_28 : decode cX5_findPairs 28 = .ok (.isub, 1) := by decide +kernel
theorem dX5_findPairs_29 : decode cX5_findPairs 29 = .ok (.irem, 1) := by decide +kernel
theorem dX5_findPairs_30 : decode cX5_findPairs 30 = .ok (.ifCond .ne 35, 3) := by decide +kernel
theorem dX5_findPairs_33 : decode cX5_findPairs 33 = .ok (.aload_n 0, 1) := by decide +kernel
theorem dX5_findPairs_34 : decode cX5_findPairs 34 = .ok (.getfield 23, 3) := by decide +kernel
theorem dX5_findPairs_37 : decode cX5_findPairs 37 = .ok (.aload_n 0, 1) := by decide +kernel
theorem dX5_findPairs_38 : decode cX5_findPairs 38 = .ok (.getfield 9, 3) := by decide +kernel
theorem dX5_findPairs_41 : decode cX5_findPairs 41 = .ok (.arraylength, 1) := by decide +kernel
theorem dX5_findPairs_42 : decode cX5_findPairs 42 = .ok (.if_icmp .ge 23, 3) := by decide +kernel
theorem dX5_findPairs_45 : decode cX5_findPairs 45 = .ok (.aload_n 0, 1) := by decide +kernel
theorem dX5_findPairs_46 : decode cX5_findPairs 46 = .ok (.getfield 9, 3) := by decide +kernel
theorem dX5_findPairs_49 : decode cX5_findPairs 49 = .ok (.aload_n 0, 1) := by decide +kernel
theorem dX5_findPairs_50 : decode cX5_findPairs 50 = .ok (.getfield 23, 3) := by decide +kernel
theorem dX5_findPairs_53 : decode cX5_findPairs 53 = .ok (.iload_n 3, 1) := by decide +kernel
theorem dX5_findPairs_54 : decode cX5_findPairs 54 = .ok (.iastore, 1) := by decide +kernel
theorem dX5_findPairs_55 : decode cX5_findPairs 55 = .ok (.aload_n 0, 1) := by decide +kernel
theorem dX5_findPairs_56 : decode cX5_findPairs 56 = .ok (.dup, 1) := by decide +kernel
theorem dX5_findPairs_57 : decode cX5_findPairs 57 = .ok (.getfield 23, 3) := by decide +kernel
theorem dX5_findPairs_60 : decode cX5_findPairs 60 = .ok (.iconst 1, 1) := by decide +kernel
theorem dX5_findPairs_61 : decode cX5_findPairs 61 = .ok (.iadd, 1) := by decide +kernel
theorem dX5_findPairs_62 : decode cX5_findPairs 62 = .ok (.putfield 23, 3) := by decide +kernel
theorem dX5_findPairs_65 : decode cX5_findPairs 65 = .ok (.iinc 3 1, 3) := by decide +kernel
theorem dX5_findPairs_68 : decode cX5_findPairs 68 = .ok (.goto (-56), 3) := by decide +kernel
theorem dX5_findPairs_71 : decode cX5_findPairs 71 = .ok (.return_, 1) := by decide +kernel
abbrev po_X5_findPairs (cI cJ : ClassId) (hX5 : Nat) (aX5_lesser : Nat) (aX5_divisors : Nat) (t_divisorsSize : Int) (t_listedP : Int) (t_listedQ : Int) (Q : (Int → Int) → Int → Prop) : Option Value → va_W → Prop := fun rv w1 => ∃ (t_lesser : Int → Int) (t_size : Int), rv = none ∧ w1 = [(hX5, .inr (4, [.ref aX5_lesser, .ref aX5_divisors, .int (i32 t_divisorsSize), .int (i32 t_size), .int (i32 t_listedP), .int (i32 t_listedQ)])), (aX5_lesser, aI cI 202 t_lesser)] ∧ rr32 t_lesser ∧ r32 t_size ∧ Q t_lesser t_size
def wp_X5_findPairs_65 (Q : (Int → Int) → Int → Prop) (K_12 : (Int → Int) → Int → Int → Int → Int → Prop) (t_lesser : Int → Int) (t_size : Int) (l1 : Int) (l2 : Int) (l3 : Int) : Prop := (r32 (l3 + 1) ∧ K_12 t_lesser t_size l1 l2 (l3 + 1))
set_option maxHeartbeats 4000000 in
set_option maxRecDepth 100000 in
theorem s_X5_findPairs_65 {X : Cx} (g : Gd X cX5_findPairs RX5 none 4) (hR : X.R = rmL 1 0 0) (hX5 : Nat) (aX5_lesser : Nat) (aX5_divisors : Nat) (t_divisorsSize : Int) (t_listedP : Int) (t_listedQ : Int) (Q : (Int → Int) → Int → Prop) (hF : FQ X 0 0 (po_X5_findPairs X.cI X.cJ hX5 aX5_lesser aX5_divisors t_divisorsSize t_listedP t_listedQ Q)) (K_12 : (Int → Int) → Int → Int → Int → Int → Prop) (hK_12 : ∀ (t_lesser : Int → Int) (t_size : Int) (l1 : Int) (l2 : Int) (l3 : Int), rr32 t_lesser → r32 t_size → r32 l1 → r32 l2 → r32 l3 → K_12 t_lesser t_size l1 l2 l3 → Wat X 0 0 12 [(0, .ref hX5), (1, .int (i32 l1)), (2, .int (i32 l2)), (3, .int (i32 l3))] [] [(hX5, .inr (4, [.ref aX5_lesser, .ref aX5_divisors, .int (i32 t_divisorsSize), .int (i32 t_size), .int (i32 t_listedP), .int (i32 t_listedQ)])), (aX5_lesser, aI X.cI 202 t_lesser)]) : ∀ (t_lesser : Int → Int) (t_size : Int) (l1 : Int) (l2 : Int) (l3 : Int), rr32 t_lesser → r32 t_size → r32 l1 → r32 l2 → r32 l3 → wp_X5_findPairs_65 Q K_12 t_lesser t_size l1 l2 l3 → Wat X 0 0 65 [(0, .ref hX5), (1, .int (i32 l1)), (2, .int (i32 l2)), (3, .int (i32 l3))] [] [(hX5, .inr (4, [.ref aX5_lesser, .ref aX5_divisors, .int (i32 t_divisorsSize), .int (i32 t_size), .int (i32 t_listedP), .int (i32 t_listedQ)])), (aX5_lesser, aI X.cI 202 t_lesser)] := by
  intro t_lesser t_size l1 l2 l3 r_t_lesser r_t_size r_l1 r_l2 r_l3 h
  rw [wp_X5_findPairs_65] at h
  obtain ⟨c65, h⟩ := h
  refine q_iinc (lv' := [(3, .int (i32 (l3 + 1))), (0, .ref hX5), (1, .int (i32 l1)), (2, .int (i32 l2))]) g 3 3 1 (by decide) rfl rfl dX5_findPairs_65 ?_
  refine q_goto g (-56) 12 (by decide) dX5_findPairs_68 ?_
  refine q_lv (lv' := [(0, .ref hX5), (1, .int (i32 l1)), (2, .int (i32 l2)), (3, .int (i32 (l3 + 1)))]) [1, 2, 3, 0] rfl ?_
  exact hK_12 t_lesser t_size l1 l2 (l3 + 1) r_t_lesser r_t_size r_l1 r_l2 c65 h
def wp_X5_findPairs_12 (Q : (Int → Int) → Int → Prop) : Nat → (Int → Int) → Int → Int → Int → Int → Prop
  | 0, _, _, _, _, _ => False
  | n + 1, t_lesser, t_size, l1, l2, l3 => (r32 (l1 * l3) ∧ r32 (2 * l2) ∧ (((2 * l2) ≤ (l1 * l3) → Q t_lesser t_size) ∧
  (¬ ((2 * l2) ≤ (l1 * l3)) → (r32 (l2 * l3) ∧ r32 (l1 * l3) ∧ r32 ((l1 * l3) - l2) ∧ 0 < ((l1 * l3) - l2) ∧ ((¬ (Int.tmod (l2 * l3) ((l1 * l3) - l2)) = 0 → wp_X5_findPairs_65 Q (wp_X5_findPairs_12 Q n) t_lesser t_size l1 l2 l3) ∧
  ((Int.tmod (l2 * l3) ((l1 * l3) - l2)) = 0 → ((202 ≤ t_size → wp_X5_findPairs_65 Q (wp_X5_findPairs_12 Q n) t_lesser t_size l1 l2 l3) ∧
  (¬ (202 ≤ t_size) → (0 ≤ t_size ∧ t_size < 202 ∧ r32 (t_size + 1) ∧ ∀ x62 : Int, x62 = (t_size + 1) → wp_X5_findPairs_65 Q (wp_X5_findPairs_12 Q n) (ups t_lesser t_size l3) x62 l1 l2 l3)))))))))
set_option maxHeartbeats 4000000 in
set_option maxRecDepth 100000 in
theorem s_X5_findPairs_12 {X : Cx} (g : Gd X cX5_findPairs RX5 none 4) (hR : X.R = rmL 1 0 0) (hX5 : Nat) (aX5_lesser : Nat) (aX5_divisors : Nat) (t_divisorsSize : Int) (t_listedP : Int) (t_listedQ : Int) (Q : (Int → Int) → Int → Prop) (hF : FQ X 0 0 (po_X5_findPairs X.cI X.cJ hX5 aX5_lesser aX5_divisors t_divisorsSize t_listedP t_listedQ Q)) : ∀ (n : Nat) (t_lesser : Int → Int) (t_size : Int) (l1 : Int) (l2 : Int) (l3 : Int), rr32 t_lesser → r32 t_size → r32 l1 → r32 l2 → r32 l3 → wp_X5_findPairs_12 Q n t_lesser t_size l1 l2 l3 → Wat X 0 0 12 [(0, .ref hX5), (1, .int (i32 l1)), (2, .int (i32 l2)), (3, .int (i32 l3))] [] [(hX5, .inr (4, [.ref aX5_lesser, .ref aX5_divisors, .int (i32 t_divisorsSize), .int (i32 t_size), .int (i32 t_listedP), .int (i32 t_listedQ)])), (aX5_lesser, aI X.cI 202 t_lesser)] := by
  intro n
  induction n with
  | zero => intro t_lesser t_size l1 l2 l3 r_t_lesser r_t_size r_l1 r_l2 r_l3 h; exact False.elim h
  | succ n ih =>
    intro t_lesser t_size l1 l2 l3 r_t_lesser r_t_size r_l1 r_l2 r_l3 h
    rw [wp_X5_findPairs_12] at h
    refine q_iload_n g 1 1 rfl dX5_findPairs_12 ?_
    refine q_iload_n g 3 3 rfl dX5_findPairs_13 ?_
    obtain ⟨c14, h⟩ := h
    refine q_imul g dX5_findPairs_14 ?_
    refine q_iconst g (2) dX5_findPairs_15 ?_
    refine q_iload_n g 2 2 rfl dX5_findPairs_16 ?_
    obtain ⟨c17, h⟩ := h
    refine q_imul g dX5_findPairs_17 ?_
    refine q_icmp_ge g (53) 71 c14 c17 (by decide) dX5_findPairs_18 (fun b18 => ?_) (fun b18 => ?_)
    · replace h := h.1 b18
      exact q_vret g hF ⟨t_lesser, t_size, rfl, rfl, r_t_lesser, r_t_size, h⟩ dX5_findPairs_71
    replace h := h.2 b18
    refine q_iload_n g 2 2 rfl dX5_findPairs_21 ?_
    refine q_iload_n g 3 3 rfl dX5_findPairs_22 ?_
    obtain ⟨c23, h⟩ := h
    refine q_imul g dX5_findPairs_23 ?_
    refine q_iload_n g 1 1 rfl dX5_findPairs_24 ?_
    refine q_iload_n g 3 3 rfl dX5_findPairs_25 ?_
    obtain ⟨c26, h⟩ := h
    refine q_imul g dX5_findPairs_26 ?_
    refine q_iload_n g 2 2 rfl dX5_findPairs_27 ?_
    obtain ⟨c28, h⟩ := h
    refine q_isub g dX5_findPairs_28 ?_
    obtain ⟨c29, h⟩ := h
    refine q_irem g c23 c28 (ne_of_pos c29) dX5_findPairs_29 ?_
    refine q_if_ne g (35) 65 (r32_tmod c23 c28 (ne_of_pos c29)) (by decide) dX5_findPairs_30 (fun b30 => ?_) (fun b30 => ?_)
    · replace h := h.1 b30
      exact s_X5_findPairs_65 g hR hX5 aX5_lesser aX5_divisors t_divisorsSize t_listedP t_listedQ Q hF (wp_X5_findPairs_12 Q n) (fun v0 v1 v2 v3 v4 w0 w1 w2 w3 w4 hh => ih v0 v1 v2 v3 v4 w0 w1 w2 w3 w4 hh) t_lesser t_size l1 l2 l3 r_t_lesser r_t_size r_l1 r_l2 r_l3 h
    replace h := h.2 b30
    refine q_aload_n g 0 0 rfl dX5_findPairs_33 ?_
    refine q_get (C := RX5) (T := TX5) (N := 6) g 23 inX5 0 3 rfl rfl (by decide) wF_X5_23 rfl dX5_findPairs_34 ?_
    refine q_aload_n g 0 0 rfl dX5_findPairs_37 ?_
    refine q_get (C := RX5) (T := TX5) (N := 6) g 9 inX5 0 0 rfl rfl (by decide) wF_X5_9 rfl dX5_findPairs_38 ?_
    refine q_alenI g 1 202 rfl rfl dX5_findPairs_41 ?_
    refine q_icmp_ge g (23) 65 r_t_size (r32_lit _ (by decide)) (by decide) dX5_findPairs_42 (fun b42 => ?_) (fun b42 => ?_)
    · replace h := h.1 b42
      exact s_X5_findPairs_65 g hR hX5 aX5_lesser aX5_divisors t_divisorsSize t_listedP t_listedQ Q hF (wp_X5_findPairs_12 Q n) (fun v0 v1 v2 v3 v4 w0 w1 w2 w3 w4 hh => ih v0 v1 v2 v3 v4 w0 w1 w2 w3 w4 hh) t_lesser t_size l1 l2 l3 r_t_lesser r_t_size r_l1 r_l2 r_l3 h
    replace h := h.2 b42
    refine q_aload_n g 0 0 rfl dX5_findPairs_45 ?_
    refine q_get (C := RX5) (T := TX5) (N := 6) g 9 inX5 0 0 rfl rfl (by decide) wF_X5_9 rfl dX5_findPairs_46 ?_
    refine q_aload_n g 0 0 rfl dX5_findPairs_49 ?_
    refine q_get (C := RX5) (T := TX5) (N := 6) g 23 inX5 0 3 rfl rfl (by decide) wF_X5_23 rfl dX5_findPairs_50 ?_
    refine q_iload_n g 3 3 rfl dX5_findPairs_53 ?_
    obtain ⟨c54, h⟩ := h
    obtain ⟨e54, h⟩ := h
    refine q_iast (ws' := [(hX5, .inr (4, [.ref aX5_lesser, .ref aX5_divisors, .int (i32 t_divisorsSize), .int (i32 t_size), .int (i32 t_listedP), .int (i32 t_listedQ)])), (aX5_lesser, aI X.cI 202 (ups t_lesser t_size l3))]) g 1 rfl c54 e54 (by decide) rfl dX5_findPairs_54 ?_
    refine q_aload_n g 0 0 rfl dX5_findPairs_55 ?_
    refine q_dup g rfl dX5_findPairs_56 ?_
    refine q_get (C := RX5) (T := TX5) (N := 6) g 23 inX5 0 3 rfl rfl (by decide) wF_X5_23 rfl dX5_findPairs_57 ?_
    refine q_iconst g (1) dX5_findPairs_60 ?_
    obtain ⟨c61, h⟩ := h
    refine q_iadd g dX5_findPairs_61 ?_
    refine q_topi c61 (fun x62 ex62 rx62 => ?_)
    replace h := h x62 ex62
    refine q_put (C := RX5) (T := TX5) (N := 6) (ty := .int) (ws' := [(hX5, .inr (4, [.ref aX5_lesser, .ref aX5_divisors, .int (i32 t_divisorsSize), .int (i32 x62), .int (i32 t_listedP), .int (i32 t_listedQ)])), (aX5_lesser, aI X.cI 202 (ups t_lesser t_size l3))]) g 23 inX5 tyX5_ok nmX5 0 3 rfl rfl (by decide) wF_X5_23 rfl rfl rfl rfl (Nat.le_of_ble_eq_true rfl) rfl dX5_findPairs_62 ?_
    exact s_X5_findPairs_65 g hR hX5 aX5_lesser aX5_divisors t_divisorsSize t_listedP t_listedQ Q hF (wp_X5_findPairs_12 Q n) (fun v0 v1 v2 v3 v4 w0 w1 w2 w3 w4 hh => ih v0 v1 v2 v3 v4 w0 w1 w2 w3 w4 hh) (ups t_lesser t_size l3) x62 l1 l2 l3 (rr32_u r_t_lesser r_l3) rx62 r_l1 r_l2 r_l3 h
def wp_X5_findPairs (Q : (Int → Int) → Int → Prop) (t_lesser : Int → Int) (t_size : Int) (l1 : Int) (l2 : Int) : Prop := ((1 ≤ l1 → (0 < l1 ∧ r32 ((l2.tdiv l1) + 1) ∧ ∀ x11 : Int, x11 = ((l2.tdiv l1) + 1) → (∃ n0 : Nat, wp_X5_findPairs_12 Q n0 t_lesser t_size l1 l2 x11))) ∧
  (¬ (1 ≤ l1) → Q t_lesser t_size))
set_option maxHeartbeats 4000000 in
set_option maxRecDepth 100000 in
theorem c_X5_findPairs (l : Launch) (D : va_G) (cI cJ : ClassId) (zt : Nat) (hX5 : Nat) (aX5_lesser : Nat) (aX5_divisors : Nat) (t_divisorsSize : Int) (t_size : Int) (t_listedP : Int) (t_listedQ : Int) (t_lesser : Int → Int) (l1 : Int) (l2 : Int) (Q : (Int → Int) → Int → Prop) (r_t_lesser : rr32 t_lesser) (r_t_size : r32 t_size) (r_l1 : r32 l1) (r_l2 : r32 l2) (h : wp_X5_findPairs Q t_lesser t_size l1 l2) : Ct l D cI cJ zt yX5_findPairs cX5_findPairs 4 none 1 0 0 [.ref hX5, .int (i32 l1), .int (i32 l2)] [(hX5, .inr (4, [.ref aX5_lesser, .ref aX5_divisors, .int (i32 t_divisorsSize), .int (i32 t_size), .int (i32 t_listedP), .int (i32 t_listedQ)])), (aX5_lesser, aI cI 202 t_lesser)] (po_X5_findPairs cI cJ hX5 aX5_lesser aX5_divisors t_divisorsSize t_listedP t_listedQ Q) := by
  refine ct_of (by decide +kernel) (Nat.le_of_ble_eq_true rfl) (fun X hl hDD hcI hcJ hzt hR hF hnm g => ?_)
  subst hl; subst hDD; subst hcI; subst hcJ; subst hzt
  show Wat X 0 0 0 [(0, .ref hX5), (1, .int (i32 l1)), (2, .int (i32 l2))] [] [(hX5, .inr (4, [.ref aX5_lesser, .ref aX5_divisors, .int (i32 t_divisorsSize), .int (i32 t_size), .int (i32 t_listedP), .int (i32 t_listedQ)])), (aX5_lesser, aI X.cI 202 t_lesser)]
  replace g : Gd X cX5_findPairs RX5 none 4 := g
  rw [wp_X5_findPairs] at h
  refine q_iload_n g 1 1 rfl dX5_findPairs_0 ?_
  refine q_iconst g (1) dX5_findPairs_1 ?_
  refine q_icmp_ge g (4) 6 r_l1 (r32_lit _ (by decide)) (by decide) dX5_findPairs_2 (fun b2 => ?_) (fun b2 => ?_)
  · replace h := h.1 b2
    refine q_iload_n g 2 2 rfl dX5_findPairs_6 ?_
    refine q_iload_n g 1 1 rfl dX5_findPairs_7 ?_
    obtain ⟨c8, h⟩ := h
    refine q_idiv g r_l2 r_l1 (ne_of_pos c8) dX5_findPairs_8 ?_
    refine q_iconst g (1) dX5_findPairs_9 ?_
    obtain ⟨c10, h⟩ := h
    refine q_iadd g dX5_findPairs_10 ?_
    refine q_topi c10 (fun x11 ex11 rx11 => ?_)
    replace h := h x11 ex11
    refine q_istore_n (lv' := [(3, .int (i32 x11)), (0, .ref hX5), (1, .int (i32 l1)), (2, .int (i32 l2))]) g 3 3 rfl (by decide) rfl dX5_findPairs_11 ?_
    refine q_lv (lv' := [(0, .ref hX5), (1, .int (i32 l1)), (2, .int (i32 l2)), (3, .int (i32 x11))]) [1, 2, 3, 0] rfl ?_
    obtain ⟨n0, h⟩ := h
    exact s_X5_findPairs_12 g hR hX5 aX5_lesser aX5_divisors t_divisorsSize t_listedP t_listedQ Q hF n0 t_lesser t_size l1 l2 x11 r_t_lesser r_t_size r_l1 r_l2 rx11 h
  replace h := h.2 b2
  exact q_vret g hF ⟨t_lesser, t_size, rfl, rfl, r_t_lesser, r_t_size, h⟩ dX5_findPairs_5
theorem dX5_lesser_0 : decode cX5_lesser 0 = .ok (.iload_n 1, 1) := by decide +kernel
theorem dX5_lesser_1 : decode cX5_lesser 1 = .ok (.ifCond .lt 30, 3) := by decide +kernel
theorem dX5_lesser_4 : decode cX5_lesser 4 = .ok (.iload_n 1, 1) := by decide +kernel
theorem dX5_lesser_5 : decode cX5_lesser 5 = .ok (.aload_n 0, 1) := by decide +kernel
theorem dX5_lesser_6 : decode cX5_lesser 6 = .ok (.getfield 23, 3) := by decide +kernel
theorem dX5_lesser_9 : decode cX5_lesser 9 = .ok (.if_icmp .ge 22, 3) := by decide +kernel
theorem dX5_lesser_12 : decode cX5_lesser 12 = .ok (.iload_n 1, 1) := by decide +kernel
theorem dX5_lesser_13 : decode cX5_lesser 13 = .ok (.aload_n 0, 1) := by decide +kernel
theorem dX5_lesser_14 : decode cX5_lesser 14 = .ok (.getfield 9, 3) := by decide +kernel
theorem dX5_lesser_17 : decode cX5_lesser 17 = .ok (.arraylength, 1) := by decide +kernel
theorem dX5_lesser_18 : decode cX5_lesser 18 = .ok (.if_icmp .ge 13, 3) := by decide +kernel
theorem dX5_lesser_21 : decode cX5_lesser 21 = .ok (.aload_n 0, 1) := by decide +kernel
theorem dX5_lesser_22 : decode cX5_lesser 22 = .ok (.getfield 9, 3) := by decide +kernel
theorem dX5_lesser_25 : decode cX5_lesser 25 = .ok (.iload_n 1, 1) := by decide +kernel
theorem dX5_lesser_26 : decode cX5_lesser 26 = .ok (.iaload, 1) := by decide +kernel
theorem dX5_lesser_27 : decode cX5_lesser 27 = .ok (.i2l, 1) := by decide +kernel
theorem dX5_lesser_28 : decode cX5_lesser 28 = .ok (.goto 4, 3) := by decide +kernel
theorem dX5_lesser_31 : decode cX5_lesser 31 = .ok (.lconst 0, 1) := by decide +kernel
theorem dX5_lesser_32 : decode cX5_lesser 32 = .ok (.lreturn, 1) := by decide +kernel
abbrev po_X5_lesser (cI cJ : ClassId) (hX5 : Nat) (aX5_lesser : Nat) (aX5_divisors : Nat) (t_divisorsSize : Int) (t_size : Int) (t_listedP : Int) (t_listedQ : Int) (t_lesser : Int → Int) (Q : Int → Prop) : Option Value → va_W → Prop := fun rv w1 => ∃ (r0 : Int), rv = some (.long (i64 r0)) ∧ w1 = [(hX5, .inr (4, [.ref aX5_lesser, .ref aX5_divisors, .int (i32 t_divisorsSize), .int (i32 t_size), .int (i32 t_listedP), .int (i32 t_listedQ)])), (aX5_lesser, aI cI 202 t_lesser)] ∧ r64 r0 ∧ Q r0
def wp_X5_lesser_32 (Q : Int → Prop) (t_lesser : Int → Int) (t_size : Int) (k0 : Int) : Prop := Q k0
set_option maxHeartbeats 4000000 in
set_option maxRecDepth 100000 in
theorem s_X5_lesser_32 {X : Cx} (g : Gd X cX5_lesser RX5 (some .long) 2) (hR : X.R = rmL 1 0 0) (hX5 : Nat) (aX5_lesser : Nat) (aX5_divisors : Nat) (t_divisorsSize : Int) (t_listedP : Int) (t_listedQ : Int) (t_lesser : Int → Int) (t_size : Int) (r_t_lesser : rr32 t_lesser) (r_t_size : r32 t_size) (Q : Int → Prop) (hF : FQ X 0 0 (po_X5_lesser X.cI X.cJ hX5 aX5_lesser aX5_divisors t_divisorsSize t_size t_listedP t_listedQ t_lesser Q)) : ∀ (k0 : Int), r64 k0 → wp_X5_lesser_32 Q t_lesser t_size k0 → Wat X 0 0 32 [] [.long (i64 k0)] [(hX5, .inr (4, [.ref aX5_lesser, .ref aX5_divisors, .int (i32 t_divisorsSize), .int (i32 t_size), .int (i32 t_listedP), .int (i32 t_listedQ)])), (aX5_lesser, aI X.cI 202 t_lesser)] := by
  intro k0 r_k0 h
  rw [wp_X5_lesser_32] at h
  exact q_lret g hF ⟨k0, rfl, rfl, r_k0, h⟩ dX5_lesser_32
def wp_X5_lesser_31 (Q : Int → Prop) (t_lesser : Int → Int) (t_size : Int) : Prop := wp_X5_lesser_32 Q t_lesser t_size 0
set_option maxHeartbeats 4000000 in
set_option maxRecDepth 100000 in
theorem s_X5_lesser_31 {X : Cx} (g : Gd X cX5_lesser RX5 (some .long) 2) (hR : X.R = rmL 1 0 0) (hX5 : Nat) (aX5_lesser : Nat) (aX5_divisors : Nat) (t_divisorsSize : Int) (t_listedP : Int) (t_listedQ : Int) (t_lesser : Int → Int) (t_size : Int) (r_t_lesser : rr32 t_lesser) (r_t_size : r32 t_size) (Q : Int → Prop) (hF : FQ X 0 0 (po_X5_lesser X.cI X.cJ hX5 aX5_lesser aX5_divisors t_divisorsSize t_size t_listedP t_listedQ t_lesser Q)) : wp_X5_lesser_31 Q t_lesser t_size → Wat X 0 0 31 [] [] [(hX5, .inr (4, [.ref aX5_lesser, .ref aX5_divisors, .int (i32 t_divisorsSize), .int (i32 t_size), .int (i32 t_listedP), .int (i32 t_listedQ)])), (aX5_lesser, aI X.cI 202 t_lesser)] := by
  intro h
  rw [wp_X5_lesser_31] at h
  refine q_lconst g 0 0 rfl dX5_lesser_31 ?_
  exact s_X5_lesser_32 g hR hX5 aX5_lesser aX5_divisors t_divisorsSize t_listedP t_listedQ t_lesser t_size r_t_lesser r_t_size Q hF 0 (r64_lit _ (by decide)) h
def wp_X5_lesser (Q : Int → Prop) (t_lesser : Int → Int) (t_size : Int) (l1 : Int) : Prop := ((l1 < 0 → wp_X5_lesser_31 Q t_lesser t_size) ∧
  (¬ (l1 < 0) → ((t_size ≤ l1 → wp_X5_lesser_31 Q t_lesser t_size) ∧
  (¬ (t_size ≤ l1) → ((202 ≤ l1 → wp_X5_lesser_31 Q t_lesser t_size) ∧
  (¬ (202 ≤ l1) → (0 ≤ l1 ∧ l1 < 202 ∧ wp_X5_lesser_32 Q t_lesser t_size (t_lesser l1))))))))
set_option maxHeartbeats 4000000 in
set_option maxRecDepth 100000 in
theorem c_X5_lesser (l : Launch) (D : va_G) (cI cJ : ClassId) (zt : Nat) (hX5 : Nat) (aX5_lesser : Nat) (aX5_divisors : Nat) (t_divisorsSize : Int) (t_size : Int) (t_listedP : Int) (t_listedQ : Int) (t_lesser : Int → Int) (l1 : Int) (Q : Int → Prop) (r_t_lesser : rr32 t_lesser) (r_t_size : r32 t_size) (r_l1 : r32 l1) (h : wp_X5_lesser Q t_lesser t_size l1) : Ct l D cI cJ zt yX5_lesser cX5_lesser 2 (some .long) 1 0 0 [.ref hX5, .int (i32 l1)] [(hX5, .inr (4, [.ref aX5_lesser, .ref aX5_divisors, .int (i32 t_divisorsSize), .int (i32 t_size), .int (i32 t_listedP), .int (i32 t_listedQ)])), (aX5_lesser, aI cI 202 t_lesser)] (po_X5_lesser cI cJ hX5 aX5_lesser aX5_divisors t_divisorsSize t_size t_listedP t_listedQ t_lesser Q) := by
  refine ct_of (by decide +kernel) (Nat.le_of_ble_eq_true rfl) (fun X hl hDD hcI hcJ hzt hR hF hnm g => ?_)
  subst hl; subst hDD; subst hcI; subst hcJ; subst hzt
  show Wat X 0 0 0 [(0, .ref hX5), (1, .int (i32 l1))] [] [(hX5, .inr (4, [.ref aX5_lesser, .ref aX5_divisors, .int (i32 t_divisorsSize), .int (i32 t_size), .int (i32 t_listedP), .int (i32 t_listedQ)])), (aX5_lesser, aI X.cI 202 t_lesser)]
  replace g : Gd X cX5_lesser RX5 (some .long) 2 := g
  rw [wp_X5_lesser] at h
  refine q_iload_n g 1 1 rfl dX5_lesser_0 ?_
  refine q_if_lt g (30) 31 r_l1 (by decide) dX5_lesser_1 (fun b1 => ?_) (fun b1 => ?_)
  · replace h := h.1 b1
    refine q_lv (lv' := []) [] rfl ?_
    exact s_X5_lesser_31 g hR hX5 aX5_lesser aX5_divisors t_divisorsSize t_listedP t_listedQ t_lesser t_size r_t_lesser r_t_size Q hF h
  replace h := h.2 b1
  refine q_iload_n g 1 1 rfl dX5_lesser_4 ?_
  refine q_aload_n g 0 0 rfl dX5_lesser_5 ?_
  refine q_get (C := RX5) (T := TX5) (N := 6) g 23 inX5 0 3 rfl rfl (by decide) wF_X5_23 rfl dX5_lesser_6 ?_
  refine q_icmp_ge g (22) 31 r_l1 r_t_size (by decide) dX5_lesser_9 (fun b9 => ?_) (fun b9 => ?_)
  · replace h := h.1 b9
    refine q_lv (lv' := []) [] rfl ?_
    exact s_X5_lesser_31 g hR hX5 aX5_lesser aX5_divisors t_divisorsSize t_listedP t_listedQ t_lesser t_size r_t_lesser r_t_size Q hF h
  replace h := h.2 b9
  refine q_iload_n g 1 1 rfl dX5_lesser_12 ?_
  refine q_aload_n g 0 0 rfl dX5_lesser_13 ?_
  refine q_get (C := RX5) (T := TX5) (N := 6) g 9 inX5 0 0 rfl rfl (by decide) wF_X5_9 rfl dX5_lesser_14 ?_
  refine q_alenI g 1 202 rfl rfl dX5_lesser_17 ?_
  refine q_icmp_ge g (13) 31 r_l1 (r32_lit _ (by decide)) (by decide) dX5_lesser_18 (fun b18 => ?_) (fun b18 => ?_)
  · replace h := h.1 b18
    refine q_lv (lv' := []) [] rfl ?_
    exact s_X5_lesser_31 g hR hX5 aX5_lesser aX5_divisors t_divisorsSize t_listedP t_listedQ t_lesser t_size r_t_lesser r_t_size Q hF h
  replace h := h.2 b18
  refine q_aload_n g 0 0 rfl dX5_lesser_21 ?_
  refine q_get (C := RX5) (T := TX5) (N := 6) g 9 inX5 0 0 rfl rfl (by decide) wF_X5_9 rfl dX5_lesser_22 ?_
  refine q_iload_n g 1 1 rfl dX5_lesser_25 ?_
  obtain ⟨c26, h⟩ := h
  obtain ⟨e26, h⟩ := h
  refine q_iald g 1 rfl c26 e26 (by decide) dX5_lesser_26 ?_
  refine q_i2l g (r_t_lesser _) dX5_lesser_27 ?_
  refine q_goto g (4) 32 (by decide) dX5_lesser_28 ?_
  refine q_lv (lv' := []) [] rfl ?_
  exact s_X5_lesser_32 g hR hX5 aX5_lesser aX5_divisors t_divisorsSize t_listedP t_listedQ t_lesser t_size r_t_lesser r_t_size Q hF (t_lesser l1) (r32_64 (r_t_lesser _)) h
theorem dX5_greater_0 : decode cX5_greater 0 = .ok (.aload_n 0, 1) := by decide +kernel
theorem dX5_greater_1 : decode cX5_greater 1 = .ok (.iload_n 1, 1) := by decide +kernel
theorem dX5_greater_2 : decode cX5_greater 2 = .ok (.invokevirtual 30, 3) := by decide +kernel
theorem dX5_greater_5 : decode cX5_greater 5 = .ok (.lstore_n 2, 1) := by decide +kernel
theorem dX5_greater_6 : decode cX5_greater 6 = .ok (.aload_n 0, 1) := by decide +kernel
theorem dX5_greater_7 : decode cX5_greater 7 = .ok (.getfield 16, 3) := by decide +kernel
theorem dX5_greater_10 : decode cX5_greater 10 = .ok (.i2l, 1) := by decide +kernel
theorem dX5_greater_11 : decode cX5_greater 11 = .ok (.lload_n 2, 1) := by decide +kernel
theorem dX5_greater_12 : decode cX5_greater 12 = .ok (.lmul, 1) := by decide +kernel
theorem dX5_greater_13 : decode cX5_greater 13 = .ok (.aload_n 0, 1) := by decide +kernel
theorem dX5_greater_14 : decode cX5_greater 14 = .ok (.getfield 20, 3) := by decide +kernel
theorem dX5_greater_17 : decode cX5_greater 17 = .ok (.i2l, 1) := by decide +kernel
theorem dX5_greater_18 : decode cX5_greater 18 = .ok (.lsub, 1) := by decide +kernel
theorem dX5_greater_19 : decode cX5_greater 19 = .ok (.lstore 4, 2) := by decide +kernel
theorem dX5_greater_21 : decode cX5_greater 21 = .ok (.lload 4, 2) := by decide +kernel
theorem dX5_greater_23 : decode cX5_greater 23 = .ok (.lconst 0, 1) := by decide +kernel
theorem dX5_greater_24 : decode cX5_greater 24 = .ok (.lcmp, 1) := by decide +kernel
theorem dX5_greater_25 : decode cX5_greater 25 = .ok (.ifCond .le 16, 3) := by decide +kernel
theorem dX5_greater_28 : decode cX5_greater 28 = .ok (.aload_n 0, 1) := by decide +kernel
theorem dX5_greater_29 : decode cX5_greater 29 = .ok (.getfield 20, 3) := by decide +kernel
theorem dX5_greater_32 : decode cX5_greater 32 = .ok (.i2l, 1) := by decide +kernel
theorem dX5_greater_33 : decode cX5_greater 33 = .ok (.lload_n 2, 1) := by decide +kernel
theorem dX5_greater_34 : decode cX5_greater 34 = .ok (.lmul, 1) := by decide +kernel
theorem dX5_greater_35 : decode cX5_greater 35 = .ok (.lload 4, 2) := by decide +kernel
theorem dX5_greater_37 : decode cX5_greater 37 = .ok (.ldiv, 1) := by decide +kernel
theorem dX5_greater_38 : decode cX5_greater 38 = .ok (.goto 4, 3) := by decide +kernel
theorem dX5_greater_41 : decode cX5_greater 41 = .ok (.lconst 0, 1) := by decide +kernel
theorem dX5_greater_42 : decode cX5_greater 42 = .ok (.lreturn, 1) := by decide +kernel
abbrev po_X5_greater (cI cJ : ClassId) (hX5 : Nat) (aX5_lesser : Nat) (aX5_divisors : Nat) (t_divisorsSize : Int) (t_size : Int) (t_listedP : Int) (t_listedQ : Int) (t_lesser : Int → Int) (Q : Int → Prop) : Option Value → va_W → Prop := fun rv w1 => ∃ (r0 : Int), rv = some (.long (i64 r0)) ∧ w1 = [(hX5, .inr (4, [.ref aX5_lesser, .ref aX5_divisors, .int (i32 t_divisorsSize), .int (i32 t_size), .int (i32 t_listedP), .int (i32 t_listedQ)])), (aX5_lesser, aI cI 202 t_lesser)] ∧ r64 r0 ∧ Q r0
def wp_X5_greater_42 (Q : Int → Prop) (t_lesser : Int → Int) (t_size : Int) (t_listedP : Int) (t_listedQ : Int) (k0 : Int) : Prop := Q k0
set_option maxHeartbeats 4000000 in
set_option maxRecDepth 100000 in
theorem s_X5_greater_42 {X : Cx} (g : Gd X cX5_greater RX5 (some .long) 6) (hR : X.R = rmL 2 0 0) (hX5 : Nat) (aX5_lesser : Nat) (aX5_divisors : Nat) (t_divisorsSize : Int) (t_lesser : Int → Int) (t_size : Int) (t_listedP : Int) (t_listedQ : Int) (r_t_lesser : rr32 t_lesser) (r_t_size : r32 t_size) (r_t_listedP : r32 t_listedP) (r_t_listedQ : r32 t_listedQ) (Q : Int → Prop) (hF : FQ X 0 0 (po_X5_greater X.cI X.cJ hX5 aX5_lesser aX5_divisors t_divisorsSize t_size t_listedP t_listedQ t_lesser Q)) : ∀ (k0 : Int), r64 k0 → wp_X5_greater_42 Q t_lesser t_size t_listedP t_listedQ k0 → Wat X 0 0 42 [] [.long (i64 k0)] [(hX5, .inr (4, [.ref aX5_lesser, .ref aX5_divisors, .int (i32 t_divisorsSize), .int (i32 t_size), .int (i32 t_listedP), .int (i32 t_listedQ)])), (aX5_lesser, aI X.cI 202 t_lesser)] := by
  intro k0 r_k0 h
  rw [wp_X5_greater_42] at h
  exact q_lret g hF ⟨k0, rfl, rfl, r_k0, h⟩ dX5_greater_42
def wp_X5_greater (Q : Int → Prop) (t_lesser : Int → Int) (t_size : Int) (t_listedP : Int) (t_listedQ : Int) (l1 : Int) : Prop := wp_X5_lesser (fun (x2 : Int) => (r64 (t_listedP * x2) ∧ r64 ((t_listedP * x2) - t_listedQ) ∧ ∀ x19 : Int, x19 = ((t_listedP * x2) - t_listedQ) → ((x19 ≤ 0 → wp_X5_greater_42 Q t_lesser t_size t_listedP t_listedQ 0) ∧
  (¬ (x19 ≤ 0) → (r64 (t_listedQ * x2) ∧ 0 < x19 ∧ wp_X5_greater_42 Q t_lesser t_size t_listedP t_listedQ (Int.tdiv (t_listedQ * x2) x19)))))) t_lesser t_size l1
set_option maxHeartbeats 4000000 in
set_option maxRecDepth 100000 in
theorem c_X5_greater (l : Launch) (D : va_G) (cI cJ : ClassId) (zt : Nat) (hX5 : Nat) (aX5_lesser : Nat) (aX5_divisors : Nat) (t_divisorsSize : Int) (t_size : Int) (t_listedP : Int) (t_listedQ : Int) (t_lesser : Int → Int) (l1 : Int) (Q : Int → Prop) (r_t_lesser : rr32 t_lesser) (r_t_size : r32 t_size) (r_t_listedP : r32 t_listedP) (r_t_listedQ : r32 t_listedQ) (r_l1 : r32 l1) (h : wp_X5_greater Q t_lesser t_size t_listedP t_listedQ l1) : Ct l D cI cJ zt yX5_greater cX5_greater 6 (some .long) 2 0 0 [.ref hX5, .int (i32 l1)] [(hX5, .inr (4, [.ref aX5_lesser, .ref aX5_divisors, .int (i32 t_divisorsSize), .int (i32 t_size), .int (i32 t_listedP), .int (i32 t_listedQ)])), (aX5_lesser, aI cI 202 t_lesser)] (po_X5_greater cI cJ hX5 aX5_lesser aX5_divisors t_divisorsSize t_size t_listedP t_listedQ t_lesser Q) := by
  refine ct_of (by decide +kernel) (Nat.le_of_ble_eq_true rfl) (fun X hl hDD hcI hcJ hzt hR hF hnm g => ?_)
  subst hl; subst hDD; subst hcI; subst hcJ; subst hzt
  show Wat X 0 0 0 [(0, .ref hX5), (1, .int (i32 l1))] [] [(hX5, .inr (4, [.ref aX5_lesser, .ref aX5_divisors, .int (i32 t_divisorsSize), .int (i32 t_size), .int (i32 t_listedP), .int (i32 t_listedQ)])), (aX5_lesser, aI X.cI 202 t_lesser)]
  replace g : Gd X cX5_greater RX5 (some .long) 6 := g
  rw [wp_X5_greater] at h
  refine q_aload_n g 0 0 rfl dX5_greater_0 ?_
  refine q_iload_n g 1 1 rfl dX5_greater_1 ?_
  refine q_callV (lev := 1) (mc := 0) (ms := 0) g 30 (c_X5_lesser X.l X.D X.cI X.cJ X.zt hX5 aX5_lesser aX5_divisors t_divisorsSize t_size t_listedP t_listedQ t_lesser l1 _ r_t_lesser r_t_size r_l1 h) (wr := []) [0, 1] [] rfl rfl rfl (by decide) (by decide) (by decide) (ci := 4) rfl rfl rfl wM_X5_30 wI_X5_lesser wS_X5_lesser wZ_X5 wC_X5_lesser 1 rfl (by decide +kernel) (by rw [hR]; exact ⟨by show 1 + 1 ≤ 2; omega, by show 8 + (2 + 11) + 100 * 1 ≤ 100 * 2; omega⟩) (by rw [hR]; exact ⟨Nat.le_refl _, Nat.le_refl _⟩) (Nat.le_of_ble_eq_true rfl) rfl dX5_greater_2 (fun rv w1 hq => ?_)
  obtain ⟨x2, rfl, rfl, rx2, h⟩ := hq
  show Wat X 0 0 5 [(0, .ref hX5), (1, .int (i32 l1))] [.long (i64 x2)] [(hX5, .inr (4, [.ref aX5_lesser, .ref aX5_divisors, .int (i32 t_divisorsSize), .int (i32 t_size), .int (i32 t_listedP), .int (i32 t_listedQ)])), (aX5_lesser, aI X.cI 202 t_lesser)]
  refine q_lstore_n (lv' := [(2, .long (i64 x2)), (0, .ref hX5), (1, .int (i32 l1))]) g 2 2 rfl (by decide) rfl dX5_greater_5 ?_
  refine q_aload_n g 0 1 rfl dX5_greater_6 ?_
  refine q_get (C := RX5) (T := TX5) (N := 6) g 16 inX5 0 4 rfl rfl (by decide) wF_X5_16 rfl dX5_greater_7 ?_
  refine q_i2l g r_t_listedP dX5_greater_10 ?_
  refine q_lload_n g 2 0 rfl dX5_greater_11 ?_
  obtain ⟨c12, h⟩ := h
  refine q_lmul g dX5_greater_12 ?_
  refine q_aload_n g 0 1 rfl dX5_greater_13 ?_
  refine q_get (C := RX5) (T := TX5) (N := 6) g 20 inX5 0 5 rfl rfl (by decide) wF_X5_20 rfl dX5_greater_14 ?_
  refine q_i2l g r_t_listedQ dX5_greater_17 ?_
  obtain ⟨c18, h⟩ := h
  refine q_lsub g dX5_greater_18 ?_
  refine q_topl c18 (fun x19 ex19 rx19 => ?_)
  replace h := h x19 ex19
  refine q_lstore (lv' := [(4, .long (i64 x19)), (2, .long (i64 x2)), (0, .ref hX5), (1, .int (i32 l1))]) g 4   (by decide) rfl dX5_greater_19 ?_
  refine q_lload g 4 0 rfl dX5_greater_21 ?_
  refine q_lconst g 0 0 rfl dX5_greater_23 ?_
  refine q_lcmp_le g (16) 41 rx19 (r64_lit _ (by decide)) (by decide) dX5_greater_24 dX5_greater_25 (fun b24 => ?_) (fun b24 => ?_)
  · replace h := h.1 b24
    refine q_lconst g 0 0 rfl dX5_greater_41 ?_
    refine q_lv (lv' := []) [] rfl ?_
    exact s_X5_greater_42 g hR hX5 aX5_lesser aX5_divisors t_divisorsSize t_lesser t_size t_listedP t_listedQ r_t_lesser r_t_size r_t_listedP r_t_listedQ Q hF 0 (r64_lit _ (by decide)) h
  replace h := h.2 b24
  refine q_aload_n g 0 2 rfl dX5_greater_28 ?_
  refine q_get (C := RX5) (T := TX5) (N := 6) g 20 inX5 0 5 rfl rfl (by decide) wF_X5_20 rfl dX5_greater_29 ?_
  refine q_i2l g r_t_listedQ dX5_greater_32 ?_
  refine q_lload_n g 2 1 rfl dX5_greater_33 ?_
  obtain ⟨c34, h⟩ := h
  refine q_lmul g dX5_greater_34 ?_
  refine q_lload g 4 0 rfl dX5_greater_35 ?_
  obtain ⟨c37, h⟩ := h
  refine q_ldiv g c34 rx19 (ne_of_pos c37) dX5_greater_37 ?_
  refine q_goto g (4) 42 (by decide) dX5_greater_38 ?_
  refine q_lv (lv' := []) [] rfl ?_
  exact s_X5_greater_42 g hR hX5 aX5_lesser aX5_divisors t_divisorsSize t_lesser t_size t_listedP t_listedQ r_t_lesser r_t_size r_t_listedP r_t_listedQ Q hF (Int.tdiv (t_listedQ * x2) x19) (r64_tdiv c34 c37) h
theorem dX5_list_0 : decode cX5_list 0 = .ok (.iload_n 1, 1) := by decide +kernel
theorem dX5_list_1 : decode cX5_list 1 = .ok (.aload_n 0, 1) := by decide +kernel
theorem dX5_list_2 : decode cX5_list 2 = .ok (.getfield 16, 3) := by decide +kernel
theorem dX5_list_5 : decode cX5_list 5 = .ok (.if_icmp .ne 11, 3) := by decide +kernel
theorem dX5_list_8 : decode cX5_list 8 = .ok (.iload_n 2, 1) := by decide +kernel
theorem dX5_list_9 : decode cX5_list 9 = .ok (.aload_n 0, 1) := by decide +kernel
theorem dX5_list_10 : decode cX5_list 10 = .ok (.getfield 20, 3) := by decide +kernel
theorem dX5_list_13 : decode cX5_list 13 = .ok (.if_icmp .eq 24, 3) := by decide +kernel
theorem dX5_list_16 : decode cX5_list 16 = .ok (.aload_n 0, 1) := by decide +kernel
theorem dX5_list_17 : decode cX5_list 17 = .ok (.iload_n 1, 1) := by decide +kernel
theorem dX5_list_18 : decode cX5_list 18 = .ok (.putfield 16, 3) := by decide +kernel
theorem dX5_list_21 : decode cX5_list 21 = .ok (.aload_n 0, 1) := by decide +kernel
theorem dX5_list_22 : decode cX5_list 22 = .ok (.iload_n 2, 1) := by decide +kernel
theorem dX5_list_23 : decode cX5_list 23 = .ok (.putfield 20, 3) := by decide +kernel
theorem dX5_list_26 : decode cX5_list 26 = .ok (.aload_n 0, 1) := by decide +kernel
theorem dX5_list_27 : decode cX5_list 27 = .ok (.iconst 0, 1) := by decide +kernel
theorem dX5_list_28 : decode cX5_list 28 = .ok (.putfield 23, 3) := by decide +kernel
theorem dX5_list_31 : decode cX5_list 31 = .ok (.aload_n 0, 1) := by decide +kernel
theorem dX5_list_32 : decode cX5_list 32 = .ok (.iload_n 1, 1) := by decide +kernel
theorem dX5_list_33 : decode cX5_list 33 = .ok (.iload_n 2, 1) := by decide +kernel
theorem dX5_list_34 : decode cX5_list 34 = .ok (.invokevirtual 26, 3) := by decide +kernel
theorem dX5_list_37 : decode cX5_list 37 = .ok (.aload_n 0, 1) := by decide +kernel
theorem dX5_list_38 : decode cX5_list 38 = .ok (.getfield 23, 3) := by decide +kernel
theorem dX5_list_41 : decode cX5_list 41 = .ok (.ireturn, 1) := by decide +kernel
abbrev po_X5_list (cI cJ : ClassId) (hX5 : Nat) (aX5_lesser : Nat) (aX5_divisors : Nat) (t_divisorsSize : Int) (Q : Int → (Int → Int) → Int → Int → Int → Prop) : Option Value → va_W → Prop := fun rv w1 => ∃ (r0 : Int) (t_lesser : Int → Int) (t_size : Int) (t_listedP : Int) (t_listedQ : Int), rv = some (.int (i32 r0)) ∧ w1 = [(hX5, .inr (4, [.ref aX5_lesser, .ref aX5_divisors, .int (i32 t_divisorsSize), .int (i32 t_size), .int (i32 t_listedP), .int (i32 t_listedQ)])), (aX5_lesser, aI cI 202 t_lesser)] ∧ r32 r0 ∧ rr32 t_lesser ∧ r32 t_size ∧ r32 t_listedP ∧ r32 t_listedQ ∧ Q r0 t_lesser t_size t_listedP t_listedQ
def wp_X5_list_37 (Q : Int → (Int → Int) → Int → Int → Int → Prop) (t_lesser : Int → Int) (t_size : Int) (t_listedP : Int) (t_listedQ : Int) : Prop := Q t_size t_lesser t_size t_listedP t_listedQ
set_option maxHeartbeats 4000000 in
set_option maxRecDepth 100000 in
theorem s_X5_list_37 {X : Cx} (g : Gd X cX5_list RX5 (some .int) 3) (hR : X.R = rmL 2 0 0) (hX5 : Nat) (aX5_lesser : Nat) (aX5_divisors : Nat) (t_divisorsSize : Int) (Q : Int → (Int → Int) → Int → Int → Int → Prop) (hF : FQ X 0 0 (po_X5_list X.cI X.cJ hX5 aX5_lesser aX5_divisors t_divisorsSize Q)) : ∀ (t_lesser : Int → Int) (t_size : Int) (t_listedP : Int) (t_listedQ : Int), rr32 t_lesser → r32 t_size → r32 t_listedP → r32 t_listedQ → wp_X5_list_37 Q t_lesser t_size t_listedP t_listedQ → Wat X 0 0 37 [(0, .ref hX5)] [] [(hX5, .inr (4, [.ref aX5_lesser, .ref aX5_divisors, .int (i32 t_divisorsSize), .int (i32 t_size), .int (i32 t_listedP), .int (i32 t_listedQ)])), (aX5_lesser, aI X.cI 202 t_lesser)] := by
  intro t_lesser t_size t_listedP t_listedQ r_t_lesser r_t_size r_t_listedP r_t_listedQ h
  rw [wp_X5_list_37] at h
  refine q_aload_n g 0 0 rfl dX5_list_37 ?_
  refine q_get (C := RX5) (T := TX5) (N := 6) g 23 inX5 0 3 rfl rfl (by decide) wF_X5_23 rfl dX5_list_38 ?_
  exact q_iret g hF ⟨t_size, t_lesser, t_size, t_listedP, t_listedQ, rfl, rfl, r_t_size, r_t_lesser, r_t_size, r_t_listedP, r_t_listedQ, h⟩ dX5_list_41
def wp_X5_list_16 (Q : Int → (Int → Int) → Int → Int → Int → Prop) (t_lesser : Int → Int) (t_size : Int) (t_listedP : Int) (t_listedQ : Int) (l1 : Int) (l2 : Int) : Prop := wp_X5_findPairs (fun (t_lesser_34 : Int → Int) (t_size_34 : Int) => wp_X5_list_37 Q t_lesser_34 t_size_34 l1 l2) t_lesser 0 l1 l2
set_option maxHeartbeats 4000000 in
set_option maxRecDepth 100000 in
theorem s_X5_list_16 {X : Cx} (g : Gd X cX5_list RX5 (some .int) 3) (hR : X.R = rmL 2 0 0) (hX5 : Nat) (aX5_lesser : Nat) (aX5_divisors : Nat) (t_divisorsSize : Int) (Q : Int → (Int → Int) → Int → Int → Int → Prop) (hF : FQ X 0 0 (po_X5_list X.cI X.cJ hX5 aX5_lesser aX5_divisors t_divisorsSize Q)) : ∀ (t_lesser : Int → Int) (t_size : Int) (t_listedP : Int) (t_listedQ : Int) (l1 : Int) (l2 : Int), rr32 t_lesser → r32 t_size → r32 t_listedP → r32 t_listedQ → r32 l1 → r32 l2 → wp_X5_list_16 Q t_lesser t_size t_listedP t_listedQ l1 l2 → Wat X 0 0 16 [(0, .ref hX5), (1, .int (i32 l1)), (2, .int (i32 l2))] [] [(hX5, .inr (4, [.ref aX5_lesser, .ref aX5_divisors, .int (i32 t_divisorsSize), .int (i32 t_size), .int (i32 t_listedP), .int (i32 t_listedQ)])), (aX5_lesser, aI X.cI 202 t_lesser)] := by
  intro t_lesser t_size t_listedP t_listedQ l1 l2 r_t_lesser r_t_size r_t_listedP r_t_listedQ r_l1 r_l2 h
  rw [wp_X5_list_16] at h
  refine q_aload_n g 0 0 rfl dX5_list_16 ?_
  refine q_iload_n g 1 1 rfl dX5_list_17 ?_
  refine q_put (C := RX5) (T := TX5) (N := 6) (ty := .int) (ws' := [(hX5, .inr (4, [.ref aX5_lesser, .ref aX5_divisors, .int (i32 t_divisorsSize), .int (i32 t_size), .int (i32 l1), .int (i32 t_listedQ)])), (aX5_lesser, aI X.cI 202 t_lesser)]) g 16 inX5 tyX5_ok nmX5 0 4 rfl rfl (by decide) wF_X5_16 rfl rfl rfl rfl (Nat.le_of_ble_eq_true rfl) rfl dX5_list_18 ?_
  refine q_aload_n g 0 0 rfl dX5_list_21 ?_
  refine q_iload_n g 2 2 rfl dX5_list_22 ?_
  refine q_put (C := RX5) (T := TX5) (N := 6) (ty := .int) (ws' := [(hX5, .inr (4, [.ref aX5_lesser, .ref aX5_divisors, .int (i32 t_divisorsSize), .int (i32 t_size), .int (i32 l1), .int (i32 l2)])), (aX5_lesser, aI X.cI 202 t_lesser)]) g 20 inX5 tyX5_ok nmX5 0 5 rfl rfl (by decide) wF_X5_20 rfl rfl rfl rfl (Nat.le_of_ble_eq_true rfl) rfl dX5_list_23 ?_
  refine q_aload_n g 0 0 rfl dX5_list_26 ?_
  refine q_iconst g (0) dX5_list_27 ?_
  refine q_put (C := RX5) (T := TX5) (N := 6) (ty := .int) (ws' := [(hX5, .inr (4, [.ref aX5_lesser, .ref aX5_divisors, .int (i32 t_divisorsSize), .int (i32 0), .int (i32 l1), .int (i32 l2)])), (aX5_lesser, aI X.cI 202 t_lesser)]) g 23 inX5 tyX5_ok nmX5 0 3 rfl rfl (by decide) wF_X5_23 rfl rfl rfl rfl (Nat.le_of_ble_eq_true rfl) rfl dX5_list_28 ?_
  refine q_aload_n g 0 0 rfl dX5_list_31 ?_
  refine q_iload_n g 1 1 rfl dX5_list_32 ?_
  refine q_iload_n g 2 2 rfl dX5_list_33 ?_
  refine q_callV (lev := 1) (mc := 0) (ms := 0) g 26 (c_X5_findPairs X.l X.D X.cI X.cJ X.zt hX5 aX5_lesser aX5_divisors t_divisorsSize 0 l1 l2 t_lesser l1 l2 _ r_t_lesser (r32_lit _ (by decide)) r_l1 r_l2 h) (wr := []) [0, 1] [] rfl rfl rfl (by decide) (by decide) (by decide) (ci := 4) rfl rfl rfl wM_X5_26 wI_X5_findPairs wS_X5_findPairs wZ_X5 wC_X5_findPairs 2 rfl (by decide +kernel) (by rw [hR]; exact ⟨by show 1 + 1 ≤ 2; omega, by show 8 + (4 + 11) + 100 * 1 ≤ 100 * 2; omega⟩) (by rw [hR]; exact ⟨Nat.le_refl _, Nat.le_refl _⟩) (Nat.le_of_ble_eq_true rfl) rfl dX5_list_34 (fun rv w1 hq => ?_)
  obtain ⟨t_lesser_34, t_size_34, rfl, rfl, rt_lesser_34, rt_size_34, h⟩ := hq
  show Wat X 0 0 37 [(0, .ref hX5), (1, .int (i32 l1)), (2, .int (i32 l2))] [] [(hX5, .inr (4, [.ref aX5_lesser, .ref aX5_divisors, .int (i32 t_divisorsSize), .int (i32 t_size_34), .int (i32 l1), .int (i32 l2)])), (aX5_lesser, aI X.cI 202 t_lesser_34)]
  refine q_lv (lv' := [(0, .ref hX5)]) [0] rfl ?_
  exact s_X5_list_37 g hR hX5 aX5_lesser aX5_divisors t_divisorsSize Q hF t_lesser_34 t_size_34 l1 l2 rt_lesser_34 rt_size_34 r_l1 r_l2 h
def wp_X5_list (Q : Int → (Int → Int) → Int → Int → Int → Prop) (t_lesser : Int → Int) (t_size : Int) (t_listedP : Int) (t_listedQ : Int) (l1 : Int) (l2 : Int) : Prop := ((¬ l1 = t_listedP → wp_X5_list_16 Q t_lesser t_size t_listedP t_listedQ l1 l2) ∧
  (l1 = t_listedP → ((l2 = t_listedQ → wp_X5_list_37 Q t_lesser t_size t_listedP t_listedQ) ∧
  (¬ (l2 = t_listedQ) → wp_X5_list_16 Q t_lesser t_size t_listedP t_listedQ l1 l2))))
set_option maxHeartbeats 4000000 in
set_option maxRecDepth 100000 in
theorem c_X5_list (l : Launch) (D : va_G) (cI cJ : ClassId) (zt : Nat) (hX5 : Nat) (aX5_lesser : Nat) (aX5_divisors : Nat) (t_divisorsSize : Int) (t_size : Int) (t_listedP : Int) (t_listedQ : Int) (t_lesser : Int → Int) (l1 : Int) (l2 : Int) (Q : Int → (Int → Int) → Int → Int → Int → Prop) (r_t_lesser : rr32 t_lesser) (r_t_size : r32 t_size) (r_t_listedP : r32 t_listedP) (r_t_listedQ : r32 t_listedQ) (r_l1 : r32 l1) (r_l2 : r32 l2) (h : wp_X5_list Q t_lesser t_size t_listedP t_listedQ l1 l2) : Ct l D cI cJ zt yX5_list cX5_list 3 (some .int) 2 0 0 [.ref hX5, .int (i32 l1), .int (i32 l2)] [(hX5, .inr (4, [.ref aX5_lesser, .ref aX5_divisors, .int (i32 t_divisorsSize), .int (i32 t_size), .int (i32 t_listedP), .int (i32 t_listedQ)])), (aX5_lesser, aI cI 202 t_lesser)] (po_X5_list cI cJ hX5 aX5_lesser aX5_divisors t_divisorsSize Q) := by
  refine ct_of (by decide +kernel) (Nat.le_of_ble_eq_true rfl) (fun X hl hDD hcI hcJ hzt hR hF hnm g => ?_)
  subst hl; subst hDD; subst hcI; subst hcJ; subst hzt
  show Wat X 0 0 0 [(0, .ref hX5), (1, .int (i32 l1)), (2, .int (i32 l2))] [] [(hX5, .inr (4, [.ref aX5_lesser, .ref aX5_divisors, .int (i32 t_divisorsSize), .int (i32 t_size), .int (i32 t_listedP), .int (i32 t_listedQ)])), (aX5_lesser, aI X.cI 202 t_lesser)]
  replace g : Gd X cX5_list RX5 (some .int) 3 := g
  rw [wp_X5_list] at h
  refine q_iload_n g 1 1 rfl dX5_list_0 ?_
  refine q_aload_n g 0 0 rfl dX5_list_1 ?_
  refine q_get (C := RX5) (T := TX5) (N := 6) g 16 inX5 0 4 rfl rfl (by decide) wF_X5_16 rfl dX5_list_2 ?_
  refine q_icmp_ne g (11) 16 r_l1 r_t_listedP (by decide) dX5_list_5 (fun b5 => ?_) (fun b5 => ?_)
  · replace h := h.1 b5
    exact s_X5_list_16 g hR hX5 aX5_lesser aX5_divisors t_divisorsSize Q hF t_lesser t_size t_listedP t_listedQ l1 l2 r_t_lesser r_t_size r_t_listedP r_t_listedQ r_l1 r_l2 h
  replace h := h.2 b5
  refine q_iload_n g 2 2 rfl dX5_list_8 ?_
  refine q_aload_n g 0 0 rfl dX5_list_9 ?_
  refine q_get (C := RX5) (T := TX5) (N := 6) g 20 inX5 0 5 rfl rfl (by decide) wF_X5_20 rfl dX5_list_10 ?_
  refine q_icmp_eq g (24) 37 r_l2 r_t_listedQ (by decide) dX5_list_13 (fun b13 => ?_) (fun b13 => ?_)
  · replace h := h.1 b13
    refine q_lv (lv' := [(0, .ref hX5)]) [0] rfl ?_
    exact s_X5_list_37 g hR hX5 aX5_lesser aX5_divisors t_divisorsSize Q hF t_lesser t_size t_listedP t_listedQ r_t_lesser r_t_size r_t_listedP r_t_listedQ h
  replace h := h.2 b13
  exact s_X5_list_16 g hR hX5 aX5_lesser aX5_divisors t_divisorsSize Q hF t_lesser t_size t_listedP t_listedQ l1 l2 r_t_lesser r_t_size r_t_listedP r_t_listedQ r_l1 r_l2 h
