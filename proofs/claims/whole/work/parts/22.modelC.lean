theorem wC_X8_findPairs : Cond.code yX8_findPairs cX8_findPairs 10 (some .int) ∈ TT := List.mem_filter.mpr ⟨List.mem_append_right _ (List.mem_of_getElem? (i := 976) (by decide +kernel)), rfl⟩
theorem wC_X8_findSums : Cond.code yX8_findSums cX8_findSums 23 none ∈ TT := List.mem_filter.mpr ⟨List.mem_append_right _ (List.mem_of_getElem? (i := 889) (by decide +kernel)), rfl⟩
theorem wC_X8_goRoad : Cond.code yX8_goRoad cX8_goRoad 6 (some .int) ∈ TT := List.mem_filter.mpr ⟨List.mem_append_right _ (List.mem_of_getElem? (i := 833) (by decide +kernel)), rfl⟩
theorem wC_X8_isRoad : Cond.code yX8_isRoad cX8_isRoad 1 (some .boolean) ∈ TT := List.mem_filter.mpr ⟨List.mem_append_right _ (List.mem_of_getElem? (i := 828) (by decide +kernel)), rfl⟩
theorem wC_X8_isUpTo : Cond.code yX8_isUpTo cX8_isUpTo 3 (some .boolean) ∈ TT := List.mem_filter.mpr ⟨List.mem_append_right _ (List.mem_of_getElem? (i := 972) (by decide +kernel)), rfl⟩
theorem wI_X8_findPairs : Cond.instanceMethod yX8_findPairs ∈ TT := List.mem_filter.mpr ⟨List.mem_append_right _ (List.mem_of_getElem? (i := 975) (by decide +kernel)), rfl⟩
theorem wI_X8_findSums : Cond.instanceMethod yX8_findSums ∈ TT := List.mem_filter.mpr ⟨List.mem_append_right _ (List.mem_of_getElem? (i := 888) (by decide +kernel)), rfl⟩
theorem wI_X8_goRoad : Cond.instanceMethod yX8_goRoad ∈ TT := List.mem_filter.mpr ⟨List.mem_append_right _ (List.mem_of_getElem? (i := 832) (by decide +kernel)), rfl⟩
theorem wI_X8_isUpTo : Cond.instanceMethod yX8_isUpTo ∈ TT := List.mem_filter.mpr ⟨List.mem_append_right _ (List.mem_of_getElem? (i := 971) (by decide +kernel)), rfl⟩
theorem wL_X8_124 : Cond.constantLong RX8 124 (4) ∈ TT := List.mem_filter.mpr ⟨List.mem_append_right _ (List.mem_of_getElem? (i := 829) (by decide +kernel)), rfl⟩
theorem wL_X8_135 : Cond.constantLong RX8 135 (-4) ∈ TT := List.mem_filter.mpr ⟨List.mem_append_right _ (List.mem_of_getElem? (i := 875) (by decide +kernel)), rfl⟩
theorem wL_X8_144 : Cond.constantLong RX8 144 (60) ∈ TT := List.mem_filter.mpr ⟨List.mem_append_right _ (List.mem_of_getElem? (i := 880) (by decide +kernel)), rfl⟩
theorem wL_X8_146 : Cond.constantLong RX8 146 (6) ∈ TT := List.mem_filter.mpr ⟨List.mem_append_right _ (List.mem_of_getElem? (i := 881) (by decide +kernel)), rfl⟩
theorem wL_X8_155 : Cond.constantLong RX8 155 (8) ∈ TT := List.mem_filter.mpr ⟨List.mem_append_right _ (List.mem_of_getElem? (i := 902) (by decide +kernel)), rfl⟩
theorem wL_X8_160 : Cond.constantLong RX8 160 (255) ∈ TT := List.mem_filter.mpr ⟨List.mem_append_right _ (List.mem_of_getElem? (i := 903) (by decide +kernel)), rfl⟩
theorem wL_X8_212 : Cond.constantLong RX8 212 (-2) ∈ TT := List.mem_filter.mpr ⟨List.mem_append_right _ (List.mem_of_getElem? (i := 981) (by decide +kernel)), rfl⟩
theorem wL_X8_214 : Cond.constantLong RX8 214 (40) ∈ TT := List.mem_filter.mpr ⟨List.mem_append_right _ (List.mem_of_getElem? (i := 990) (by decide +kernel)), rfl⟩
theorem wL_X8_222 : Cond.constantLong RX8 222 (30) ∈ TT := List.mem_filter.mpr ⟨List.mem_append_right _ (List.mem_of_getElem? (i := 995) (by decide +kernel)), rfl⟩
theorem wL_X8_227 : Cond.constantLong RX8 227 (1000) ∈ TT := List.mem_filter.mpr ⟨List.mem_append_right _ (List.mem_of_getElem? (i := 1008) (by decide +kernel)), rfl⟩
theorem wL_X8_78 : Cond.constantLong RX8 78 (3) ∈ TT := List.mem_filter.mpr ⟨List.mem_append_right _ (List.mem_of_getElem? (i := 817) (by decide +kernel)), rfl⟩
theorem wM_X8_126 : Cond.methodLink RX8 126 yX8_isRoad ∈ TT := List.mem_filter.mpr ⟨List.mem_append_right _ (List.mem_of_getElem? (i := 826) (by decide +kernel)), rfl⟩
theorem wM_X8_129 : Cond.methodLink RX8 129 yX8_goRoad ∈ TT := List.mem_filter.mpr ⟨List.mem_append_right _ (List.mem_of_getElem? (i := 830) (by decide +kernel)), rfl⟩
theorem wM_X8_151 : Cond.methodLink RX8 151 yX8_findSums ∈ TT := List.mem_filter.mpr ⟨List.mem_append_right _ (List.mem_of_getElem? (i := 886) (by decide +kernel)), rfl⟩
theorem wM_X8_205 : Cond.methodLink RX8 205 yX8_isUpTo ∈ TT := List.mem_filter.mpr ⟨List.mem_append_right _ (List.mem_of_getElem? (i := 969) (by decide +kernel)), rfl⟩
theorem wM_X8_208 : Cond.methodLink RX8 208 yX8_findPairs ∈ TT := List.mem_filter.mpr ⟨List.mem_append_right _ (List.mem_of_getElem? (i := 973) (by decide +kernel)), rfl⟩
theorem wS_X8_findPairs : Cond.selects yX8_findPairs.cls yX8_findPairs yX8_findPairs ∈ TT := List.mem_filter.mpr ⟨List.mem_append_left _ (List.mem_of_getElem? (i := 67) (by decide +kernel)), rfl⟩
theorem wS_X8_findSums : Cond.selects yX8_findSums.cls yX8_findSums yX8_findSums ∈ TT := List.mem_filter.mpr ⟨List.mem_append_left _ (List.mem_of_getElem? (i := 57) (by decide +kernel)), rfl⟩
theorem wS_X8_goRoad : Cond.selects yX8_goRoad.cls yX8_goRoad yX8_goRoad ∈ TT := List.mem_filter.mpr ⟨List.mem_append_left _ (List.mem_of_getElem? (i := 47) (by decide +kernel)), rfl⟩
theorem wS_X8_isUpTo : Cond.selects yX8_isUpTo.cls yX8_isUpTo yX8_isUpTo ∈ TT := List.mem_filter.mpr ⟨List.mem_append_left _ (List.mem_of_getElem? (i := 66) (by decide +kernel)), rfl⟩
theorem wT_X8_isRoad : Cond.static yX8_isRoad ∈ TT := List.mem_filter.mpr ⟨List.mem_append_right _ (List.mem_of_getElem? (i := 827) (by decide +kernel)), rfl⟩
theorem dX8_isRoad_0 : decode cX8_isRoad 0 = .ok (.iload_n 0, 1) := by decide +kernel
theorem dX8_isRoad_1 : decode cX8_isRoad 1 = .ok (.i2l, 1) := by decide +kernel
theorem dX8_isRoad_2 : decode cX8_isRoad 2 = .ok (.lconst 0, 1) := by decide +kernel
theorem dX8_isRoad_3 : decode cX8_isRoad 3 = .ok (.ldc2_w 124, 3) := by decide +kernel
theorem dX8_isRoad_6 : decode cX8_isRoad 6 = .ok (.invokestatic 60, 3) := by decide +kernel
theorem dX8_isRoad_9 : decode cX8_isRoad 9 = .ok (.ireturn, 1) := by decide +kernel
abbrev po_X8_isRoad (cI cJ : ClassId) (Q : Int → Prop) : Option Value → va_W → Prop := fun rv w1 => ∃ (r0 : Int), rv = some (.int (i32 r0)) ∧ w1 = [] ∧ r32 r0 ∧ Q r0
def wp_X8_isRoad (Q : Int → Prop) (l0 : Int) : Prop := wp_X8_in (fun (x6 : Int) => ((x6 = 0 ∨ x6 = 1) ∧ Q x6)) l0 0 4
set_option maxHeartbeats 4000000 in
set_option maxRecDepth 100000 in
theorem c_X8_isRoad (l : Launch) (D : va_G) (cI cJ : ClassId) (zt : Nat) (l0 : Int) (Q : Int → Prop) (r_l0 : r32 l0) (h : wp_X8_isRoad Q l0) : Ct l D cI cJ zt yX8_isRoad cX8_isRoad 1 (some .boolean) 2 0 0 [.int (i32 l0)] [] (po_X8_isRoad cI cJ Q) := by
  refine ct_of (by decide +kernel) (Nat.le_of_ble_eq_true rfl) (fun X hl hDD hcI hcJ hzt hR hF hnm g => ?_)
  subst hl; subst hDD; subst hcI; subst hcJ; subst hzt
  show Wat X 0 0 0 [(0, .int (i32 l0))] [] []
  replace g : Gd X cX8_isRoad RX8 (some .boolean) 1 := g
  rw [wp_X8_isRoad] at h
  refine q_iload_n g 0 0 rfl dX8_isRoad_0 ?_
  refine q_i2l g r_l0 dX8_isRoad_1 ?_
  refine q_lconst g 0 0 rfl dX8_isRoad_2 ?_
  refine q_ldc2 (w := 4) g 124 (4) (by decide +kernel) wL_X8_124 dX8_isRoad_3 ?_
  refine q_callS (lev := 1) (mc := 0) (ms := 0) (As := [.long (i64 l0), .long (i64 0), .long (i64 4)]) g 60 (c_X8_in X.l X.D X.cI X.cJ X.zt l0 0 4 _ (r32_64 r_l0) (r64_lit _ (by decide)) (r64_lit _ (by decide)) h) (wr := []) [] [] rfl rfl rfl (by decide) (by decide) (by decide) wM_X8_60 wT_X8_in wZ_X8 wC_X8_in 3 rfl (by decide +kernel) (by rw [hR]; exact ⟨by show 1 + 1 ≤ 2; omega, by show 8 + (6 + 11) + 100 * 1 ≤ 100 * 2; omega⟩) (by rw [hR]; exact ⟨Nat.le_refl _, Nat.le_refl _⟩) (Nat.le_of_ble_eq_true rfl) rfl dX8_isRoad_6 (fun rv w1 hq => ?_)
  obtain ⟨x6, rfl, rfl, rx6, h⟩ := hq
  show Wat X 0 0 9 [(0, .int (i32 l0))] [.int (i32 x6)] []
  obtain ⟨z9, h⟩ := h
  exact q_zret g hF z9 ⟨x6, rfl, rfl, rx6, h⟩ dX8_isRoad_9
theorem dX8_isUpTo_0 : decode cX8_isUpTo 0 = .ok (.aload_n 0, 1) := by decide +kernel
theorem dX8_isUpTo_1 : decode cX8_isUpTo 1 = .ok (.iload_n 1, 1) := by decide +kernel
theorem dX8_isUpTo_2 : decode cX8_isUpTo 2 = .ok (.invokevirtual 148, 3) := by decide +kernel
theorem dX8_isUpTo_5 : decode cX8_isUpTo 5 = .ok (.ifCond .eq 17, 3) := by decide +kernel
theorem dX8_isUpTo_8 : decode cX8_isUpTo 8 = .ok (.aload_n 0, 1) := by decide +kernel
theorem dX8_isUpTo_9 : decode cX8_isUpTo 9 = .ok (.getfield 13, 3) := by decide +kernel
theorem dX8_isUpTo_12 : decode cX8_isUpTo 12 = .ok (.iload_n 1, 1) := by decide +kernel
theorem dX8_isUpTo_13 : decode cX8_isUpTo 13 = .ok (.iaload, 1) := by decide +kernel
theorem dX8_isUpTo_14 : decode cX8_isUpTo 14 = .ok (.iload_n 2, 1) := by decide +kernel
theorem dX8_isUpTo_15 : decode cX8_isUpTo 15 = .ok (.if_icmp .gt 7, 3) := by decide +kernel
theorem dX8_isUpTo_18 : decode cX8_isUpTo 18 = .ok (.iconst 1, 1) := by decide +kernel
theorem dX8_isUpTo_19 : decode cX8_isUpTo 19 = .ok (.goto 4, 3) := by decide +kernel
theorem dX8_isUpTo_22 : decode cX8_isUpTo 22 = .ok (.iconst 0, 1) := by decide +kernel
theorem dX8_isUpTo_23 : decode cX8_isUpTo 23 = .ok (.ireturn, 1) := by decide +kernel
abbrev po_X8_isUpTo (cI cJ : ClassId) (hX8 : Nat) (aX8_ups : Nat) (aX8_downs : Nat) (m_many : Int) (aX8_row : Nat) (m_isSpent : Int) (m_found : Int) (aX8_sumMany : Nat) (aX8_sumShares : Nat) (aX8_sumSet : Nat) (aX8_taken : Nat) (aX8_restUp : Nat) (aX8_restDown : Nat) (m_fewest : Int) (m_wishes : Int) (aX8_wished : Nat) (aX8_far : Nat) (aX8_queue : Nat) (m_divided : Int) (aX8_divisors : Nat) (aX8_least : Nat) (m_pairOne : Int) (m_pairTwo : Int) (m_sumUp : Int) (m_sumDown : Int) (m_ups : Int → Int) (m_downs : Int → Int) (Q : Int → Prop) : Option Value → va_W → Prop := fun rv w1 => ∃ (r0 : Int), rv = some (.int (i32 r0)) ∧ w1 = [(hX8, .inr (7, [.ref aX8_ups, .ref aX8_downs, .int (i32 m_many), .ref aX8_row, .int (i32 m_isSpent), .int (i32 m_found), .ref aX8_sumMany, .ref aX8_sumShares, .ref aX8_sumSet, .ref aX8_taken, .ref aX8_restUp, .ref aX8_restDown, .int (i32 m_fewest), .int (i32 m_wishes), .ref aX8_wished, .ref aX8_far, .ref aX8_queue, .int (i32 m_divided), .ref aX8_divisors, .ref aX8_least, .long (i64 m_pairOne), .long (i64 m_pairTwo), .long (i64 m_sumUp), .long (i64 m_sumDown)])), (aX8_ups, aI cI 8 m_ups), (aX8_downs, aI cI 8 m_downs)] ∧ r32 r0 ∧ Q r0
def wp_X8_isUpTo_23 (Q : Int → Prop) (m_ups : Int → Int) (m_downs : Int → Int) (k0 : Int) : Prop := ((k0 = 0 ∨ k0 = 1) ∧ Q k0)
set_option maxHeartbeats 4000000 in
set_option maxRecDepth 100000 in
theorem s_X8_isUpTo_23 {X : Cx} (g : Gd X cX8_isUpTo RX8 (some .boolean) 3) (hR : X.R = rmL 2 0 0) (hX8 : Nat) (aX8_ups : Nat) (aX8_downs : Nat) (m_many : Int) (aX8_row : Nat) (m_isSpent : Int) (m_found : Int) (aX8_sumMany : Nat) (aX8_sumShares : Nat) (aX8_sumSet : Nat) (aX8_taken : Nat) (aX8_restUp : Nat) (aX8_restDown : Nat) (m_fewest : Int) (m_wishes : Int) (aX8_wished : Nat) (aX8_far : Nat) (aX8_queue : Nat) (m_divided : Int) (aX8_divisors : Nat) (aX8_least : Nat) (m_pairOne : Int) (m_pairTwo : Int) (m_sumUp : Int) (m_sumDown : Int) (m_ups : Int → Int) (m_downs : Int → Int) (r_m_ups : rr32 m_ups) (r_m_downs : rr32 m_downs) (Q : Int → Prop) (hF : FQ X 0 0 (po_X8_isUpTo X.cI X.cJ hX8 aX8_ups aX8_downs m_many aX8_row m_isSpent m_found aX8_sumMany aX8_sumShares aX8_sumSet aX8_taken aX8_restUp aX8_restDown m_fewest m_wishes aX8_wished aX8_far aX8_queue m_divided aX8_divisors aX8_least m_pairOne m_pairTwo m_sumUp m_sumDown m_ups m_downs Q)) : ∀ (k0 : Int), r32 k0 → wp_X8_isUpTo_23 Q m_ups m_downs k0 → Wat X 0 0 23 [] [.int (i32 k0)] [(hX8, .inr (7, [.ref aX8_ups, .ref aX8_downs, .int (i32 m_many), .ref aX8_row, .int (i32 m_isSpent), .int (i32 m_found), .ref aX8_sumMany, .ref aX8_sumShares, .ref aX8_sumSet, .ref aX8_taken, .ref aX8_restUp, .ref aX8_restDown, .int (i32 m_fewest), .int (i32 m_wishes), .ref aX8_wished, .ref aX8_far, .ref aX8_queue, .int (i32 m_divided), .ref aX8_divisors, .ref aX8_least, .long (i64 m_pairOne), .long (i64 m_pairTwo), .long (i64 m_sumUp), .long (i64 m_sumDown)])), (aX8_ups, aI X.cI 8 m_ups), (aX8_downs, aI X.cI 8 m_downs)] := by
  intro k0 r_k0 h
  rw [wp_X8_isUpTo_23] at h
  obtain ⟨z23, h⟩ := h
  exact q_zret g hF z23 ⟨k0, rfl, rfl, r_k0, h⟩ dX8_isUpTo_23
def wp_X8_isUpTo_22 (Q : Int → Prop) (m_ups : Int → Int) (m_downs : Int → Int) : Prop := wp_X8_isUpTo_23 Q m_ups m_downs 0
set_option maxHeartbeats 4000000 in
set_option maxRecDepth 100000 in
theorem s_X8_isUpTo_22 {X : Cx} (g : Gd X cX8_isUpTo RX8 (some .boolean) 3) (hR : X.R = rmL 2 0 0) (hX8 : Nat) (aX8_ups : Nat) (aX8_downs : Nat) (m_many : Int) (aX8_row : Nat) (m_isSpent : Int) (m_found : Int) (aX8_sumMany : Nat) (aX8_sumShares : Nat) (aX8_sumSet : Nat) (aX8_taken : Nat) (aX8_restUp : Nat) (aX8_restDown : Nat) (m_fewest : Int) (m_wishes : Int) (aX8_wished : Nat) (aX8_far : Nat) (aX8_queue : Nat) (m_divided : Int) (aX8_divisors : Nat) (aX8_least : Nat) (m_pairOne : Int) (m_pairTwo : Int) (m_sumUp : Int) (m_sumDown : Int) (m_ups : Int → Int) (m_downs : Int → Int) (r_m_ups : rr32 m_ups) (r_m_downs : rr32 m_downs) (Q : Int → Prop) (hF : FQ X 0 0 (po_X8_isUpTo X.cI X.cJ hX8 aX8_ups aX8_downs m_many aX8_row m_isSpent m_found aX8_sumMany aX8_sumShares aX8_sumSet aX8_taken aX8_restUp aX8_restDown m_fewest m_wishes aX8_wished aX8_far aX8_queue m_divided aX8_divisors aX8_least m_pairOne m_pairTwo m_sumUp m_sumDown m_ups m_downs Q)) : wp_X8_isUpTo_22 Q m_ups m_downs → Wat X 0 0 22 [] [] [(hX8, .inr (7, [.ref aX8_ups, .ref aX8_downs, .int (i32 m_many), .ref aX8_row, .int (i32 m_isSpent), .int (i32 m_found), .ref aX8_sumMany, .ref aX8_sumShares, .ref aX8_sumSet, .ref aX8_taken, .ref aX8_restUp, .ref aX8_restDown, .int (i32 m_fewest), .int (i32 m_wishes), .ref aX8_wished, .ref aX8_far, .ref aX8_queue, .int (i32 m_divided), .ref aX8_divisors, .ref aX8_least, .long (i64 m_pairOne), .long (i64 m_pairTwo), .long (i64 m_sumUp), .long (i64 m_sumDown)])), (aX8_ups, aI X.cI 8 m_ups), (aX8_downs, aI X.cI 8 m_downs)] := by
  intro h
  rw [wp_X8_isUpTo_22] at h
  refine q_iconst g (0) dX8_isUpTo_22 ?_
  exact s_X8_isUpTo_23 g hR hX8 aX8_ups aX8_downs m_many aX8_row m_isSpent m_found aX8_sumMany aX8_sumShares aX8_sumSet aX8_taken aX8_restUp aX8_restDown m_fewest m_wishes aX8_wished aX8_far aX8_queue m_divided aX8_divisors aX8_least m_pairOne m_pairTwo m_sumUp m_sumDown m_ups m_downs r_m_ups r_m_downs Q hF 0 (r32_lit _ (by decide)) h
def wp_X8_isUpTo (Q : Int → Prop) (m_ups : Int → Int) (m_downs : Int → Int) (l1 : Int) (l2 : Int) : Prop := wp_X8_isPart (fun (x2 : Int) => ((x2 = 0 → wp_X8_isUpTo_22 Q m_ups m_downs) ∧
  (¬ (x2 = 0) → (0 ≤ l1 ∧ l1 < 8 ∧ ((l2 < (m_downs l1) → wp_X8_isUpTo_22 Q m_ups m_downs) ∧
  (¬ (l2 < (m_downs l1)) → wp_X8_isUpTo_23 Q m_ups m_downs 1)))))) m_ups m_downs l1
set_option maxHeartbeats 4000000 in
set_option maxRecDepth 100000 in
theorem c_X8_isUpTo (l : Launch) (D : va_G) (cI cJ : ClassId) (zt : Nat) (hX8 : Nat) (aX8_ups : Nat) (aX8_downs : Nat) (m_many : Int) (aX8_row : Nat) (m_isSpent : Int) (m_found : Int) (aX8_sumMany : Nat) (aX8_sumShares : Nat) (aX8_sumSet : Nat) (aX8_taken : Nat) (aX8_restUp : Nat) (aX8_restDown : Nat) (m_fewest : Int) (m_wishes : Int) (aX8_wished : Nat) (aX8_far : Nat) (aX8_queue : Nat) (m_divided : Int) (aX8_divisors : Nat) (aX8_least : Nat) (m_pairOne : Int) (m_pairTwo : Int) (m_sumUp : Int) (m_sumDown : Int) (m_ups : Int → Int) (m_downs : Int → Int) (l1 : Int) (l2 : Int) (Q : Int → Prop) (r_m_ups : rr32 m_ups) (r_m_downs : rr32 m_downs) (r_l1 : r32 l1) (r_l2 : r32 l2) (h : wp_X8_isUpTo Q m_ups m_downs l1 l2) : Ct l D cI cJ zt yX8_isUpTo cX8_isUpTo 3 (some .boolean) 2 0 0 [.ref hX8, .int (i32 l1), .int (i32 l2)] [(hX8, .inr (7, [.ref aX8_ups, .ref aX8_downs, .int (i32 m_many), .ref aX8_row, .int (i32 m_isSpent), .int (i32 m_found), .ref aX8_sumMany, .ref aX8_sumShares, .ref aX8_sumSet, .ref aX8_taken, .ref aX8_restUp, .ref aX8_restDown, .int (i32 m_fewest), .int (i32 m_wishes), .ref aX8_wished, .ref aX8_far, .ref aX8_queue, .int (i32 m_divided), .ref aX8_divisors, .ref aX8_least, .long (i64 m_pairOne), .long (i64 m_pairTwo), .long (i64 m_sumUp), .long (i64 m_sumDown)])), (aX8_ups, aI cI 8 m_ups), (aX8_downs, aI cI 8 m_downs)] (po_X8_isUpTo cI cJ hX8 aX8_ups aX8_downs m_many aX8_row m_isSpent m_found aX8_sumMany aX8_sumShares aX8_sumSet aX8_taken aX8_restUp aX8_restDown m_fewest m_wishes aX8_wished aX8_far aX8_queue m_divided aX8_divisors aX8_least m_pairOne m_pairTwo m_sumUp m_sumDown m_ups m_downs Q) := by
  refine ct_of (by decide +kernel) (Nat.le_of_ble_eq_true rfl) (fun X hl hDD hcI hcJ hzt hR hF hnm g => ?_)
  subst hl; subst hDD; subst hcI; subst hcJ; subst hzt
  show Wat X 0 0 0 [(0, .ref hX8), (1, .int (i32 l1)), (2, .int (i32 l2))] [] [(hX8, .inr (7, [.ref aX8_ups, .ref aX8_downs, .int (i32 m_many), .ref aX8_row, .int (i32 m_isSpent), .int (i32 m_found), .ref aX8_sumMany, .ref aX8_sumShares, .ref aX8_sumSet, .ref aX8_taken, .ref aX8_restUp, .ref aX8_restDown, .int (i32 m_fewest), .int (i32 m_wishes), .ref aX8_wished, .ref aX8_far, .ref aX8_queue, .int (i32 m_divided), .ref aX8_divisors, .ref aX8_least, .long (i64 m_pairOne), .long (i64 m_pairTwo), .long (i64 m_sumUp), .long (i64 m_sumDown)])), (aX8_ups, aI X.cI 8 m_ups), (aX8_downs, aI X.cI 8 m_downs)]
  replace g : Gd X cX8_isUpTo RX8 (some .boolean) 3 := g
  rw [wp_X8_isUpTo] at h
  refine q_aload_n g 0 0 rfl dX8_isUpTo_0 ?_
  refine q_iload_n g 1 1 rfl dX8_isUpTo_1 ?_
  refine q_callV (lev := 1) (mc := 0) (ms := 0) g 148 (c_X8_isPart X.l X.D X.cI X.cJ X.zt hX8 aX8_ups aX8_downs m_many aX8_row m_isSpent m_found aX8_sumMany aX8_sumShares aX8_sumSet aX8_taken aX8_restUp aX8_restDown m_fewest m_wishes aX8_wished aX8_far aX8_queue m_divided aX8_divisors aX8_least m_pairOne m_pairTwo m_sumUp m_sumDown m_ups m_downs l1 _ r_m_ups r_m_downs r_l1 h) (wr := []) [0, 1, 2] [] rfl rfl rfl (by decide) (by decide) (by decide) (ci := 7) rfl rfl rfl wM_X8_148 wI_X8_isPart wS_X8_isPart wZ_X8 wC_X8_isPart 1 rfl (by decide +kernel) (by rw [hR]; exact ⟨by show 1 + 1 ≤ 2; omega, by show 8 + (2 + 11) + 100 * 1 ≤ 100 * 2; omega⟩) (by rw [hR]; exact ⟨Nat.le_refl _, Nat.le_refl _⟩) (Nat.le_of_ble_eq_true rfl) rfl dX8_isUpTo_2 (fun rv w1 hq => ?_)
  obtain ⟨x2, rfl, rfl, rx2, h⟩ := hq
  show Wat X 0 0 5 [(0, .ref hX8), (1, .int (i32 l1)), (2, .int (i32 l2))] [.int (i32 x2)] [(hX8, .inr (7, [.ref aX8_ups, .ref aX8_downs, .int (i32 m_many), .ref aX8_row, .int (i32 m_isSpent), .int (i32 m_found), .ref aX8_sumMany, .ref aX8_sumShares, .ref aX8_sumSet, .ref aX8_taken, .ref aX8_restUp, .ref aX8_restDown, .int (i32 m_fewest), .int (i32 m_wishes), .ref aX8_wished, .ref aX8_far, .ref aX8_queue, .int (i32 m_divided), .ref aX8_divisors, .ref aX8_least, .long (i64 m_pairOne), .long (i64 m_pairTwo), .long (i64 m_sumUp), .long (i64 m_sumDown)])), (aX8_ups, aI X.cI 8 m_ups), (aX8_downs, aI X.cI 8 m_downs)]
  refine q_if_eq g (17) 22 rx2 (by decide) dX8_isUpTo_5 (fun b5 => ?_) (fun b5 => ?_)
  · replace h := h.1 b5
    refine q_lv (lv' := []) [] rfl ?_
    exact s_X8_isUpTo_22 g hR hX8 aX8_ups aX8_downs m_many aX8_row m_isSpent m_found aX8_sumMany aX8_sumShares aX8_sumSet aX8_taken aX8_restUp aX8_restDown m_fewest m_wishes aX8_wished aX8_far aX8_queue m_divided aX8_divisors aX8_least m_pairOne m_pairTwo m_sumUp m_sumDown m_ups m_downs r_m_ups r_m_downs Q hF h
  replace h := h.2 b5
  refine q_aload_n g 0 0 rfl dX8_isUpTo_8 ?_
  refine q_get (C := RX8) (T := TX8) (N := 24) g 13 inX8 0 1 rfl rfl (by decide) wF_X8_13 rfl dX8_isUpTo_9 ?_
  refine q_iload_n g 1 1 rfl dX8_isUpTo_12 ?_
  obtain ⟨c13, h⟩ := h
  obtain ⟨e13, h⟩ := h
  refine q_iald g 2 rfl c13 e13 (by decide) dX8_isUpTo_13 ?_
  refine q_iload_n g 2 2 rfl dX8_isUpTo_14 ?_
  refine q_icmp_gt g (7) 22 (r_m_downs _) r_l2 (by decide) dX8_isUpTo_15 (fun b15 => ?_) (fun b15 => ?_)
  · replace h := h.1 b15
    refine q_lv (lv' := []) [] rfl ?_
    exact s_X8_isUpTo_22 g hR hX8 aX8_ups aX8_downs m_many aX8_row m_isSpent m_found aX8_sumMany aX8_sumShares aX8_sumSet aX8_taken aX8_restUp aX8_restDown m_fewest m_wishes aX8_wished aX8_far aX8_queue m_divided aX8_divisors aX8_least m_pairOne m_pairTwo m_sumUp m_sumDown m_ups m_downs r_m_ups r_m_downs Q hF h
  replace h := h.2 b15
  refine q_iconst g (1) dX8_isUpTo_18 ?_
  refine q_goto g (4) 23 (by decide) dX8_isUpTo_19 ?_
  refine q_lv (lv' := []) [] rfl ?_
  exact s_X8_isUpTo_23 g hR hX8 aX8_ups aX8_downs m_many aX8_row m_isSpent m_found aX8_sumMany aX8_sumShares aX8_sumSet aX8_taken aX8_restUp aX8_restDown m_fewest m_wishes aX8_wished aX8_far aX8_queue m_divided aX8_divisors aX8_least m_pairOne m_pairTwo m_sumUp m_sumDown m_ups m_downs r_m_ups r_m_downs Q hF 1 (r32_lit _ (by decide)) h
theorem dX8_loaves_0 : decode cX8_loaves 0 = .ok (.iload_n 1, 1) := by decide +kernel
theorem dX8_loaves_1 : decode cX8_loaves 1 = .ok (.invokestatic 126, 3) := by decide +kernel
theorem dX8_loaves_4 : decode cX8_loaves 4 = .ok (.ifCond .eq 45, 3) := by decide +kernel
theorem dX8_loaves_7 : decode cX8_loaves 7 = .ok (.iload_n 2, 1) := by decide +kernel
theorem dX8_loaves_8 : decode cX8_loaves 8 = .ok (.i2l, 1) := by decide +kernel
theorem dX8_loaves_9 : decode cX8_loaves 9 = .ok (.lconst 1, 1) := by decide +kernel
theorem dX8_loaves_10 : decode cX8_loaves 10 = .ok (.ldc2_w 227, 3) := by decide +kernel
theorem dX8_loaves_13 : decode cX8_loaves 13 = .ok (.invokestatic 60, 3) := by decide +kernel
theorem dX8_loaves_16 : decode cX8_loaves 16 = .ok (.ifCond .eq 33, 3) := by decide +kernel
theorem dX8_loaves_19 : decode cX8_loaves 19 = .ok (.iload_n 3, 1) := by decide +kernel
theorem dX8_loaves_20 : decode cX8_loaves 20 = .ok (.i2l, 1) := by decide +kernel
theorem dX8_loaves_21 : decode cX8_loaves 21 = .ok (.lconst 1, 1) := by decide +kernel
theorem dX8_loaves_22 : decode cX8_loaves 22 = .ok (.ldc2_w 227, 3) := by decide +kernel
theorem dX8_loaves_25 : decode cX8_loaves 25 = .ok (.invokestatic 60, 3) := by decide +kernel
theorem dX8_loaves_28 : decode cX8_loaves 28 = .ok (.ifCond .eq 21, 3) := by decide +kernel
theorem dX8_loaves_31 : decode cX8_loaves 31 = .ok (.iload_n 2, 1) := by decide +kernel
theorem dX8_loaves_32 : decode cX8_loaves 32 = .ok (.iload_n 3, 1) := by decide +kernel
theorem dX8_loaves_33 : decode cX8_loaves 33 = .ok (.if_icmp .ge 16, 3) := by decide +kernel
theorem dX8_loaves_36 : decode cX8_loaves 36 = .ok (.iload 4, 2) := by decide +kernel
theorem dX8_loaves_38 : decode cX8_loaves 38 = .ok (.i2l, 1) := by decide +kernel
theorem dX8_loaves_39 : decode cX8_loaves 39 = .ok (.lconst 0, 1) := by decide +kernel
theorem dX8_loaves_40 : decode cX8_loaves 40 = .ok (.ldc2_w 89, 3) := by decide +kernel
theorem dX8_loaves_43 : decode cX8_loaves 43 = .ok (.invokestatic 60, 3) := by decide +kernel
theorem dX8_loaves_46 : decode cX8_loaves 46 = .ok (.ifCond .ne 7, 3) := by decide +kernel
theorem dX8_loaves_49 : decode cX8_loaves 49 = .ok (.ldc2_w 133, 3) := by decide +kernel
theorem dX8_loaves_52 : decode cX8_loaves 52 = .ok (.lreturn, 1) := by decide +kernel
theorem dX8_loaves_53 : decode cX8_loaves 53 = .ok (.iload_n 2, 1) := by decide +kernel
theorem dX8_loaves_54 : decode cX8_loaves 54 = .ok (.i2l, 1) := by decide +kernel
theorem dX8_loaves_55 : decode cX8_loaves 55 = .ok (.iload_n 3, 1) := by decide +kernel
theorem dX8_loaves_56 : decode cX8_loaves 56 = .ok (.i2l, 1) := by decide +kernel
theorem dX8_loaves_57 : decode cX8_loaves 57 = .ok (.invokestatic 64, 3) := by decide +kernel
theorem dX8_loaves_60 : decode cX8_loaves 60 = .ok (.lstore 5, 2) := by decide +kernel
theorem dX8_loaves_62 : decode cX8_loaves 62 = .ok (.aload_n 0, 1) := by decide +kernel
theorem dX8_loaves_63 : decode cX8_loaves 63 = .ok (.iload_n 1, 1) := by decide +kernel
theorem dX8_loaves_64 : decode cX8_loaves 64 = .ok (.iload_n 2, 1) := by decide +kernel
theorem dX8_loaves_65 : decode cX8_loaves 65 = .ok (.i2l, 1) := by decide +kernel
theorem dX8_loaves_66 : decode cX8_loaves 66 = .ok (.lload 5, 2) := by decide +kernel
theorem dX8_loaves_68 : decode cX8_loaves 68 = .ok (.ldiv, 1) := by decide +kernel
theorem dX8_loaves_69 : decode cX8_loaves 69 = .ok (.iload_n 3, 1) := by decide +kernel
theorem dX8_loaves_70 : decode cX8_loaves 70 = .ok (.i2l, 1) := by decide +kernel
theorem dX8_loaves_71 : decode cX8_loaves 71 = .ok (.lload 5, 2) := by decide +kernel
theorem dX8_loaves_73 : decode cX8_loaves 73 = .ok (.ldiv, 1) := by decide +kernel
theorem dX8_loaves_74 : decode cX8_loaves 74 = .ok (.invokevirtual 129, 3) := by decide +kernel
theorem dX8_loaves_77 : decode cX8_loaves 77 = .ok (.istore 7, 2) := by decide +kernel
theorem dX8_loaves_79 : decode cX8_loaves 79 = .ok (.iload 7, 2) := by decide +kernel
theorem dX8_loaves_81 : decode cX8_loaves 81 = .ok (.ifCond .ge 7, 3) := by decide +kernel
theorem dX8_loaves_84 : decode cX8_loaves 84 = .ok (.iload 7, 2) := by decide +kernel
theorem dX8_loaves_86 : decode cX8_loaves 86 = .ok (.i2l, 1) := by decide +kernel
theorem dX8_loaves_87 : decode cX8_loaves 87 = .ok (.lreturn, 1) := by decide +kernel
theorem dX8_loaves_88 : decode cX8_loaves 88 = .ok (.lconst 0, 1) := by decide +kernel
theorem dX8_loaves_89 : decode cX8_loaves 89 = .ok (.lstore 8, 2) := by decide +kernel
theorem dX8_loaves_91 : decode cX8_loaves 91 = .ok (.lconst 0, 1) := by decide +kernel
theorem dX8_loaves_92 : decode cX8_loaves 92 = .ok (.lstore 10, 2) := by decide +kernel
theorem dX8_loaves_94 : decode cX8_loaves 94 = .ok (.iconst 0, 1) := by decide +kernel
theorem dX8_loaves_95 : decode cX8_loaves 95 = .ok (.istore 12, 2) := by decide +kernel
theorem dX8_loaves_97 : decode cX8_loaves 97 = .ok (.iload 12, 2) := by decide +kernel
theorem dX8_loaves_99 : decode cX8_loaves 99 = .ok (.iload 7, 2) := by decide +kernel
theorem dX8_loaves_101 : decode cX8_loaves 101 = .ok (.if_icmp .ge 56, 3) := by decide +kernel
theorem dX8_loaves_104 : decode cX8_loaves 104 = .ok (.iload_n 3, 1) := by decide +kernel
theorem dX8_loaves_105 : decode cX8_loaves 105 = .ok (.i2l, 1) := by decide +kernel
theorem dX8_loaves_106 : decode cX8_loaves 106 = .ok (.aload_n 0, 1) := by decide +kernel
theorem dX8_loaves_107 : decode cX8_loaves 107 = .ok (.getfield 16, 3) := by decide +kernel
theorem dX8_loaves_110 : decode cX8_loaves 110 = .ok (.iload 12, 2) := by decide +kernel
theorem dX8_loaves_112 : decode cX8_loaves 112 = .ok (.laload, 1) := by decide +kernel
theorem dX8_loaves_113 : decode cX8_loaves 113 = .ok (.ladd, 1) := by decide +kernel
theorem dX8_loaves_114 : decode cX8_loaves 114 = .ok (.lconst 1, 1) := by decide +kernel
theorem dX8_loaves_115 : decode cX8_loaves 115 = .ok (.lsub, 1) := by decide +kernel
theorem dX8_loaves_116 : decode cX8_loaves 116 = .ok (.aload_n 0, 1) := by decide +kernel
theorem dX8_loaves_117 : decode cX8_loaves 117 = .ok (.getfield 16, 3) := by decide +kernel
theorem dX8_loaves_120 : decode cX8_loaves 120 = .ok (.iload 12, 2) := by decide +kernel
theorem dX8_loaves_122 : decode cX8_loaves 122 = .ok (.laload, 1) := by decide +kernel
theorem dX8_loaves_123 : decode cX8_loaves 123 = .ok (.ldiv, 1) := by decide +kernel
theorem dX8_loaves_124 : decode cX8_loaves 124 = .ok (.lstore 13, 2) := by decide +kernel
theorem dX8_loaves_126 : decode cX8_loaves 126 = .ok (.lload 8, 2) := by decide +kernel
theorem dX8_loaves_128 : decode cX8_loaves 128 = .ok (.lload 13, 2) := by decide +kernel
theorem dX8_loaves_130 : decode cX8_loaves 130 = .ok (.ladd, 1) := by decide +kernel
theorem dX8_loaves_131 : decode cX8_loaves 131 = .ok (.lstore 8, 2) := by decide +kernel
theorem dX8_loaves_133 : decode cX8_loaves 133 = .ok (.lload 10, 2) := by decide +kernel
theorem dX8_loaves_135 : decode cX8_loaves 135 = .ok (.lload 13, 2) := by decide +kernel
theorem dX8_loaves_137 : decode cX8_loaves 137 = .ok (.aload_n 0, 1) := by decide +kernel
theorem dX8_loaves_138 : decode cX8_loaves 138 = .ok (.getfield 16, 3) := by decide +kernel
theorem dX8_loaves_141 : decode cX8_loaves 141 = .ok (.iload 12, 2) := by decide +kernel
theorem dX8_loaves_143 : decode cX8_loaves 143 = .ok (.laload, 1) := by decide +kernel
theorem dX8_loaves_144 : decode cX8_loaves 144 = .ok (.lmul, 1) := by decide +kernel
theorem dX8_loaves_145 : decode cX8_loaves 145 = .ok (.iload_n 3, 1) := by decide +kernel
theorem dX8_loaves_146 : decode cX8_loaves 146 = .ok (.i2l, 1) := by decide +kernel
theorem dX8_loaves_147 : decode cX8_loaves 147 = .ok (.lsub, 1) := by decide +kernel
theorem dX8_loaves_148 : decode cX8_loaves 148 = .ok (.ladd, 1) := by decide +kernel
theorem dX8_loaves_149 : decode cX8_loaves 149 = .ok (.lstore 10, 2) := by decide +kernel
theorem dX8_loaves_151 : decode cX8_loaves 151 = .ok (.iinc 12 1, 3) := by decide +kernel
theorem dX8_loaves_154 : decode cX8_loaves 154 = .ok (.goto (-57), 3) := by decide +kernel
theorem dX8_loaves_157 : decode cX8_loaves 157 = .ok (.iload 4, 2) := by decide +kernel
theorem dX8_loaves_159 : decode cX8_loaves 159 = .ok (.ifCond .ne 12, 3) := by decide +kernel
theorem dX8_loaves_162 : decode cX8_loaves 162 = .ok (.iload_n 3, 1) := by decide +kernel
theorem dX8_loaves_163 : decode cX8_loaves 163 = .ok (.i2l, 1) := by decide +kernel
theorem dX8_loaves_164 : decode cX8_loaves 164 = .ok (.iload 7, 2) := by decide +kernel
theorem dX8_loaves_166 : decode cX8_loaves 166 = .ok (.i2l, 1) := by decide +kernel
theorem dX8_loaves_167 : decode cX8_loaves 167 = .ok (.lmul, 1) := by decide +kernel
theorem dX8_loaves_168 : decode cX8_loaves 168 = .ok (.goto 16, 3) := by decide +kernel
theorem dX8_loaves_171 : decode cX8_loaves 171 = .ok (.iload 4, 2) := by decide +kernel
theorem dX8_loaves_173 : decode cX8_loaves 173 = .ok (.iconst 1, 1) := by decide +kernel
theorem dX8_loaves_174 : decode cX8_loaves 174 = .ok (.if_icmp .ne 8, 3) := by decide +kernel
theorem dX8_loaves_177 : decode cX8_loaves 177 = .ok (.lload 8, 2) := by decide +kernel
theorem dX8_loaves_179 : decode cX8_loaves 179 = .ok (.goto 5, 3) := by decide +kernel
theorem dX8_loaves_182 : decode cX8_loaves 182 = .ok (.lload 10, 2) := by decide +kernel
theorem dX8_loaves_184 : decode cX8_loaves 184 = .ok (.lreturn, 1) := by decide +kernel
abbrev po_X8_loaves (cI cJ : ClassId) (hX8 : Nat) (aX8_ups : Nat) (aX8_downs : Nat) (aX8_row : Nat) (m_found : Int) (aX8_sumMany : Nat) (aX8_sumShares : Nat) (aX8_sumSet : Nat) (aX8_taken : Nat) (aX8_restUp : Nat) (aX8_restDown : Nat) (m_fewest : Int) (m_wishes : Int) (aX8_wished : Nat) (aX8_far : Nat) (aX8_queue : Nat) (m_divided : Int) (aX8_divisors : Nat) (aX8_least : Nat) (m_pairOne : Int) (m_pairTwo : Int) (m_sumUp : Int) (m_sumDown : Int) (Q : Int → Int → (Int → Int) → Int → Prop) : Option Value → va_W → Prop := fun rv w1 => ∃ (r0 : Int) (m_many : Int) (m_row : Int → Int) (m_isSpent : Int), rv = some (.long (i64 r0)) ∧ w1 = [(hX8, .inr (7, [.ref aX8_ups, .ref aX8_downs, .int (i32 m_many), .ref aX8_row, .int (i32 m_isSpent), .int (i32 m_found), .ref aX8_sumMany, .ref aX8_sumShares, .ref aX8_sumSet, .ref aX8_taken, .ref aX8_restUp, .ref aX8_restDown, .int (i32 m_fewest), .int (i32 m_wishes), .ref aX8_wished, .ref aX8_far, .ref aX8_queue, .int (i32 m_divided), .ref aX8_divisors, .ref aX8_least, .long (i64 m_pairOne), .long (i64 m_pairTwo), .long (i64 m_sumUp), .long (i64 m_sumDown)])), (aX8_row, aL cJ 17 m_row)] ∧ r64 r0 ∧ r32 m_many ∧ rr64 m_row ∧ r32 m_isSpent ∧ Q r0 m_many m_row m_isSpent
def wp_X8_loaves_49 (Q : Int → Int → (Int → Int) → Int → Prop) (m_many : Int) (m_row : Int → Int) (m_isSpent : Int) : Prop := Q (-1) m_many m_row m_isSpent
set_option maxHeartbeats 4000000 in
set_option maxRecDepth 100000 in
theorem s_X8_loaves_49 {X : Cx} (g : Gd X cX8_loaves RX8 (some .long) 15) (hR : X.R = rmL 4 0 0) (hX8 : Nat) (aX8_ups : Nat) (aX8_downs : Nat) (aX8_row : Nat) (m_found : Int) (aX8_sumMany : Nat) (aX8_sumShares : Nat) (aX8_sumSet : Nat) (aX8_taken : Nat) (aX8_restUp : Nat) (aX8_restDown : Nat) (m_fewest : Int) (m_wishes : Int) (aX8_wished : Nat) (aX8_far : Nat) (aX8_queue : Nat) (m_divided : Int) (aX8_divisors : Nat) (aX8_least : Nat) (m_pairOne : Int) (m_pairTwo : Int) (m_sumUp : Int) (m_sumDown : Int) (Q : Int → Int → (Int → Int) → Int → Prop) (hF : FQ X 0 0 (po_X8_loaves X.cI X.cJ hX8 aX8_ups aX8_downs aX8_row m_found aX8_sumMany aX8_sumShares aX8_sumSet aX8_taken aX8_restUp aX8_restDown m_fewest m_wishes aX8_wished aX8_far aX8_queue m_divided aX8_divisors aX8_least m_pairOne m_pairTwo m_sumUp m_sumDown Q)) : ∀ (m_many : Int) (m_row : Int → Int) (m_isSpent : Int), r32 m_many → rr64 m_row → r32 m_isSpent → wp_X8_loaves_49 Q m_many m_row m_isSpent → Wat X 0 0 49 [] [] [(hX8, .inr (7, [.ref aX8_ups, .ref aX8_downs, .int (i32 m_many), .ref aX8_row, .int (i32 m_isSpent), .int (i32 m_found), .ref aX8_sumMany, .ref aX8_sumShares, .ref aX8_sumSet, .ref aX8_taken, .ref aX8_restUp, .ref aX8_restDown, .int (i32 m_fewest), .int (i32 m_wishes), .ref aX8_wished, .ref aX8_far, .ref aX8_queue, .int (i32 m_divided), .ref aX8_divisors, .ref aX8_least, .long (i64 m_pairOne), .long (i64 m_pairTwo), .long (i64 m_sumUp), .long (i64 m_sumDown)])), (aX8_row, aL X.cJ 17 m_row)] := by
  intro m_many m_row m_isSpent r_m_many r_m_row r_m_isSpent h
  rw [wp_X8_loaves_49] at h
  refine q_ldc2 (w := (-1)) g 133 (-1) (by decide +kernel) wL_X8_133 dX8_loaves_49 ?_
  exact q_lret g hF ⟨(-1), m_many, m_row, m_isSpent, rfl, rfl, (r64_lit _ (by decide)), r_m_many, r_m_row, r_m_isSpent, h⟩ dX8_loaves_52
def wp_X8_loaves_184 (Q : Int → Int → (Int → Int) → Int → Prop) (m_many : Int) (m_row : Int → Int) (m_isSpent : Int) (k0 : Int) : Prop := Q k0 m_many m_row m_isSpent
set_option maxHeartbeats 4000000 in
set_option maxRecDepth 100000 in
theorem s_X8_loaves_184 {X : Cx} (g : Gd X cX8_loaves RX8 (some .long) 15) (hR : X.R = rmL 4 0 0) (hX8 : Nat) (aX8_ups : Nat) (aX8_downs : Nat) (aX8_row : Nat) (m_found : Int) (aX8_sumMany : Nat) (aX8_sumShares : Nat) (aX8_sumSet : Nat) (aX8_taken : Nat) (aX8_restUp : Nat) (aX8_restDown : Nat) (m_fewest : Int) (m_wishes : Int) (aX8_wished : Nat) (aX8_far : Nat) (aX8_queue : Nat) (m_divided : Int) (aX8_divisors : Nat) (aX8_least : Nat) (m_pairOne : Int) (m_pairTwo : Int) (m_sumUp : Int) (m_sumDown : Int) (Q : Int → Int → (Int → Int) → Int → Prop) (hF : FQ X 0 0 (po_X8_loaves X.cI X.cJ hX8 aX8_ups aX8_downs aX8_row m_found aX8_sumMany aX8_sumShares aX8_sumSet aX8_taken aX8_restUp aX8_restDown m_fewest m_wishes aX8_wished aX8_far aX8_queue m_divided aX8_divisors aX8_least m_pairOne m_pairTwo m_sumUp m_sumDown Q)) : ∀ (m_many : Int) (m_row : Int → Int) (m_isSpent : Int) (k0 : Int), r32 m_many → rr64 m_row → r32 m_isSpent → r64 k0 → wp_X8_loaves_184 Q m_many m_row m_isSpent k0 → Wat X 0 0 184 [] [.long (i64 k0)] [(hX8, .inr (7, [.ref aX8_ups, .ref aX8_downs, .int (i32 m_many), .ref aX8_row, .int (i32 m_isSpent), .int (i32 m_found), .ref aX8_sumMany, .ref aX8_sumShares, .ref aX8_sumSet, .ref aX8_taken, .ref aX8_restUp, .ref aX8_restDown, .int (i32 m_fewest), .int (i32 m_wishes), .ref aX8_wished, .ref aX8_far, .ref aX8_queue, .int (i32 m_divided), .ref aX8_divisors, .ref aX8_least, .long (i64 m_pairOne), .long (i64 m_pairTwo), .long (i64 m_sumUp), .long (i64 m_sumDown)])), (aX8_row, aL X.cJ 17 m_row)] := by
  intro m_many m_row m_isSpent k0 r_m_many r_m_row r_m_isSpent r_k0 h
  rw [wp_X8_loaves_184] at h
  exact q_lret g hF ⟨k0, m_many, m_row, m_isSpent, rfl, rfl, r_k0, r_m_many, r_m_row, r_m_isSpent, h⟩ dX8_loaves_184
def wp_X8_loaves_97 (Q : Int → Int → (Int → Int) → Int → Prop) : Nat → Int → (Int → Int) → Int → Int → Int → Int → Int → Int → Int → Prop
  | 0, _, _, _, _, _, _, _, _, _ => False
  | n + 1, m_many, m_row, m_isSpent, l3, l4, l7, l8, l10, l12 => ((l7 ≤ l12 → ((¬ l4 = 0 → ((¬ l4 = 1 → wp_X8_loaves_184 Q m_many m_row m_isSpent l10) ∧
  (l4 = 1 → wp_X8_loaves_184 Q m_many m_row m_isSpent l8))) ∧
  (l4 = 0 → (r64 (l3 * l7) ∧ wp_X8_loaves_184 Q m_many m_row m_isSpent (l3 * l7))))) ∧
  (¬ (l7 ≤ l12) → (0 ≤ l12 ∧ l12 < 17 ∧ r64 (l3 + (m_row l12)) ∧ r64 ((l3 + (m_row l12)) - 1) ∧ 0 ≤ l12 ∧ l12 < 17 ∧ 0 < (m_row l12) ∧ ∀ x124 : Int, x124 = (Int.tdiv ((l3 + (m_row l12)) - 1) (m_row l12)) → r64 (l8 + x124) ∧ ∀ x131 : Int, x131 = (l8 + x124) → 0 ≤ l12 ∧ l12 < 17 ∧ r64 (x124 * (m_row l12)) ∧ r64 ((x124 * (m_row l12)) - l3) ∧ r64 (l10 + ((x124 * (m_row l12)) - l3)) ∧ ∀ x149 : Int, x149 = (l10 + ((x124 * (m_row l12)) - l3)) → r32 (l12 + 1) ∧ wp_X8_loaves_97 Q n m_many m_row m_isSpent l3 l4 l7 x131 x149 (l12 + 1))))
set_option maxHeartbeats 4000000 in
set_option maxRecDepth 100000 in
theorem s_X8_loaves_97 {X : Cx} (g : Gd X cX8_loaves RX8 (some .long) 15) (hR : X.R = rmL 4 0 0) (hX8 : Nat) (aX8_ups : Nat) (aX8_downs : Nat) (aX8_row : Nat) (m_found : Int) (aX8_sumMany : Nat) (aX8_sumShares : Nat) (aX8_sumSet : Nat) (aX8_taken : Nat) (aX8_restUp : Nat) (aX8_restDown : Nat) (m_fewest : Int) (m_wishes : Int) (aX8_wished : Nat) (aX8_far : Nat) (aX8_queue : Nat) (m_divided : Int) (aX8_divisors : Nat) (aX8_least : Nat) (m_pairOne : Int) (m_pairTwo : Int) (m_sumUp : Int) (m_sumDown : Int) (Q : Int → Int → (Int → Int) → Int → Prop) (hF : FQ X 0 0 (po_X8_loaves X.cI X.cJ hX8 aX8_ups aX8_downs aX8_row m_found aX8_sumMany aX8_sumShares aX8_sumSet aX8_taken aX8_restUp aX8_restDown m_fewest m_wishes aX8_wished aX8_far aX8_queue m_divided aX8_divisors aX8_least m_pairOne m_pairTwo m_sumUp m_sumDown Q)) : ∀ (n : Nat) (m_many : Int) (m_row : Int → Int) (m_isSpent : Int) (l3 : Int) (l4 : Int) (l7 : Int) (l8 : Int) (l10 : Int) (l12 : Int), r32 m_many → rr64 m_row → r32 m_isSpent → r32 l3 → r32 l4 → r32 l7 → r64 l8 → r64 l10 → r32 l12 → wp_X8_loaves_97 Q n m_many m_row m_isSpent l3 l4 l7 l8 l10 l12 → Wat X 0 0 97 [(0, .ref hX8), (3, .int (i32 l3)), (4, .int (i32 l4)), (7, .int (i32 l7)), (8, .long (i64 l8)), (10, .long (i64 l10)), (12, .int (i32 l12))] [] [(hX8, .inr (7, [.ref aX8_ups, .ref aX8_downs, .int (i32 m_many), .ref aX8_row, .int (i32 m_isSpent), .int (i32 m_found), .ref aX8_sumMany, .ref aX8_sumShares, .ref aX8_sumSet, .ref aX8_taken, .ref aX8_restUp, .ref aX8_restDown, .int (i32 m_fewest), .int (i32 m_wishes), .ref aX8_wished, .ref aX8_far, .ref aX8_queue, .int (i32 m_divided), .ref aX8_divisors, .ref aX8_least, .long (i64 m_pairOne), .long (i64 m_pairTwo), .long (i64 m_sumUp), .long (i64 m_sumDown)])), (aX8_row, aL X.cJ 17 m_row)] := by
  intro n
  induction n with
  | zero => intro m_many m_row m_isSpent l3 l4 l7 l8 l10 l12 r_m_many r_m_row r_m_isSpent r_l3 r_l4 r_l7 r_l8 r_l10 r_l12 h; exact False.elim h
  | succ n ih =>
    intro m_many m_row m_isSpent l3 l4 l7 l8 l10 l12 r_m_many r_m_row r_m_isSpent r_l3 r_l4 r_l7 r_l8 r_l10 r_l12 h
    rw [wp_X8_loaves_97] at h
    refine q_iload g 12 6 rfl dX8_loaves_97 ?_
    refine q_iload g 7 3 rfl dX8_loaves_99 ?_
    refine q_icmp_ge g (56) 157 r_l12 r_l7 (by decide) dX8_loaves_101 (fun b101 => ?_) (fun b101 => ?_)
    · replace h := h.1 b101
      refine q_iload g 4 2 rfl dX8_loaves_157 ?_
      refine q_if_ne g (12) 171 r_l4 (by decide) dX8_loaves_159 (fun b159 => ?_) (fun b159 => ?_)
      · replace h := h.1 b159
        refine q_iload g 4 2 rfl dX8_loaves_171 ?_
        refine q_iconst g (1) dX8_loaves_173 ?_
        refine q_icmp_ne g (8) 182 r_l4 (r32_lit _ (by decide)) (by decide) dX8_loaves_174 (fun b174 => ?_) (fun b174 => ?_)
        · replace h := h.1 b174
          refine q_lload g 10 5 rfl dX8_loaves_182 ?_
          refine q_lv (lv' := []) [] rfl ?_
          exact s_X8_loaves_184 g hR hX8 aX8_ups aX8_downs aX8_row m_found aX8_sumMany aX8_sumShares aX8_sumSet aX8_taken aX8_restUp aX8_restDown m_fewest m_wishes aX8_wished aX8_far aX8_queue m_divided aX8_divisors aX8_least m_pairOne m_pairTwo m_sumUp m_sumDown Q hF m_many m_row m_isSpent l10 r_m_many r_m_row r_m_isSpent r_l10 h
        replace h := h.2 b174
        refine q_lload g 8 4 rfl dX8_loaves_177 ?_
        refine q_goto g (5) 184 (by decide) dX8_loaves_179 ?_
        refine q_lv (lv' := []) [] rfl ?_
        exact s_X8_loaves_184 g hR hX8 aX8_ups aX8_downs aX8_row m_found aX8_sumMany aX8_sumShares aX8_sumSet aX8_taken aX8_restUp aX8_restDown m_fewest m_wishes aX8_wished aX8_far aX8_queue m_divided aX8_divisors aX8_least m_pairOne m_pairTwo m_sumUp m_sumDown Q hF m_many m_row m_isSpent l8 r_m_many r_m_row r_m_isSpent r_l8 h
      replace h := h.2 b159
      refine q_iload_n g 3 1 rfl dX8_loaves_162 ?_
      refine q_i2l g r_l3 dX8_loaves_163 ?_
      refine q_iload g 7 3 rfl dX8_loaves_164 ?_
      refine q_i2l g r_l7 dX8_loaves_166 ?_
      obtain ⟨c167, h⟩ := h
      refine q_lmul g dX8_loaves_167 ?_
      refine q_goto g (16) 184 (by decide) dX8_loaves_168 ?_
      refine q_lv (lv' := []) [] rfl ?_
      exact s_X8_loaves_184 g hR hX8 aX8_ups aX8_downs aX8_row m_found aX8_sumMany aX8_sumShares aX8_sumSet aX8_taken aX8_restUp aX8_restDown m_fewest m_wishes aX8_wished aX8_far aX8_queue m_divided aX8_divisors aX8_least m_pairOne m_pairTwo m_sumUp m_sumDown Q hF m_many m_row m_isSpent (l3 * l7) r_m_many r_m_row r_m_isSpent c167 h
    replace h := h.2 b101
    refine q_iload_n g 3 1 rfl dX8_loaves_104 ?_
    refine q_i2l g r_l3 dX8_loaves_105 ?_
    refine q_aload_n g 0 0 rfl dX8_loaves_106 ?_
    refine q_get (C := RX8) (T := TX8) (N := 24) g 16 inX8 0 3 rfl rfl (by decide) wF_X8_16 rfl dX8_loaves_107 ?_
    refine q_iload g 12 6 rfl dX8_loaves_110 ?_
    obtain ⟨c112, h⟩ := h
    obtain ⟨e112, h⟩ := h
    refine q_lald g 1 rfl c112 e112 (by decide) dX8_loaves_112 ?_
    obtain ⟨c113, h⟩ := h
    refine q_ladd g dX8_loaves_113 ?_
    refine q_lconst g 1 1 rfl dX8_loaves_114 ?_
    obtain ⟨c115, h⟩ := h
    refine q_lsub g dX8_loaves_115 ?_
    refine q_aload_n g 0 0 rfl dX8_loaves_116 ?_
    refine q_get (C := RX8) (T := TX8) (N := 24) g 16 inX8 0 3 rfl rfl (by decide) wF_X8_16 rfl dX8_loaves_117 ?_
    refine q_iload g 12 6 rfl dX8_loaves_120 ?_
    obtain ⟨c122, h⟩ := h
    obtain ⟨e122, h⟩ := h
    refine q_lald g 1 rfl c122 e122 (by decide) dX8_loaves_122 ?_
    obtain ⟨c123, h⟩ := h
    refine q_ldiv g c115 (r_m_row _) (ne_of_pos c123) dX8_loaves_123 ?_
    refine q_topl (r64_tdiv c115 c123) (fun x124 ex124 rx124 => ?_)
    replace h := h x124 ex124
    refine q_lstore (lv' := [(13, .long (i64 x124)), (0, .ref hX8), (3, .int (i32 l3)), (4, .int (i32 l4)), (7, .int (i32 l7)), (8, .long (i64 l8)), (10, .long (i64 l10)), (12, .int (i32 l12))]) g 13   (by decide) rfl dX8_loaves_124 ?_
    refine q_lload g 8 5 rfl dX8_loaves_126 ?_
    refine q_lload g 13 0 rfl dX8_loaves_128 ?_
    obtain ⟨c130, h⟩ := h
    refine q_ladd g dX8_loaves_130 ?_
    refine q_topl c130 (fun x131 ex131 rx131 => ?_)
    replace h := h x131 ex131
    refine q_lstore (lv' := [(8, .long (i64 x131)), (13, .long (i64 x124)), (0, .ref hX8), (3, .int (i32 l3)), (4, .int (i32 l4)), (7, .int (i32 l7)), (10, .long (i64 l10)), (12, .int (i32 l12))]) g 8   (by decide) rfl dX8_loaves_131 ?_
    refine q_lload g 10 6 rfl dX8_loaves_133 ?_
    refine q_lload g 13 1 rfl dX8_loaves_135 ?_
    refine q_aload_n g 0 2 rfl dX8_loaves_137 ?_
    refine q_get (C := RX8) (T := TX8) (N := 24) g 16 inX8 0 3 rfl rfl (by decide) wF_X8_16 rfl dX8_loaves_138 ?_
    refine q_iload g 12 7 rfl dX8_loaves_141 ?_
    obtain ⟨c143, h⟩ := h
    obtain ⟨e143, h⟩ := h
    refine q_lald g 1 rfl c143 e143 (by decide) dX8_loaves_143 ?_
    obtain ⟨c144, h⟩ := h
    refine q_lmul g dX8_loaves_144 ?_
    refine q_iload_n g 3 3 rfl dX8_loaves_145 ?_
    refine q_i2l g r_l3 dX8_loaves_146 ?_
    obtain ⟨c147, h⟩ := h
    refine q_lsub g dX8_loaves_147 ?_
    obtain ⟨c148, h⟩ := h
    refine q_ladd g dX8_loaves_148 ?_
    refine q_topl c148 (fun x149 ex149 rx149 => ?_)
    replace h := h x149 ex149
    refine q_lstore (lv' := [(10, .long (i64 x149)), (8, .long (i64 x131)), (13, .long (i64 x124)), (0, .ref hX8), (3, .int (i32 l3)), (4, .int (i32 l4)), (7, .int (i32 l7)), (12, .int (i32 l12))]) g 10   (by decide) rfl dX8_loaves_149 ?_
    obtain ⟨c151, h⟩ := h
    refine q_iinc (lv' := [(12, .int (i32 (l12 + 1))), (10, .long (i64 x149)), (8, .long (i64 x131)), (13, .long (i64 x124)), (0, .ref hX8), (3, .int (i32 l3)), (4, .int (i32 l4)), (7, .int (i32 l7))]) g 12 7 1 (by decide) rfl rfl dX8_loaves_151 ?_
    refine q_goto g (-57) 97 (by decide) dX8_loaves_154 ?_
    refine q_lv (lv' := [(0, .ref hX8), (3, .int (i32 l3)), (4, .int (i32 l4)), (7, .int (i32 l7)), (8, .long (i64 x131)), (10, .long (i64 x149)), (12, .int (i32 (l12 + 1)))]) [4, 5, 6, 7, 2, 1, 0] rfl ?_
    exact ih m_many m_row m_isSpent l3 l4 l7 x131 x149 (l12 + 1) r_m_many r_m_row r_m_isSpent r_l3 r_l4 r_l7 rx131 rx149 c151 h
def wp_X8_loaves (Q : Int → Int → (Int → Int) → Int → Prop) (m_many : Int) (m_row : Int → Int) (m_isSpent : Int) (l1 : Int) (l2 : Int) (l3 : Int) (l4 : Int) : Prop := wp_X8_isRoad (fun (x1 : Int) => ((x1 = 0 → wp_X8_loaves_49 Q m_many m_row m_isSpent) ∧
  (¬ (x1 = 0) → wp_X8_in (fun (x13 : Int) => ((x13 = 0 → wp_X8_loaves_49 Q m_many m_row m_isSpent) ∧
  (¬ (x13 = 0) → wp_X8_in (fun (x25 : Int) => ((x25 = 0 → wp_X8_loaves_49 Q m_many m_row m_isSpent) ∧
  (¬ (x25 = 0) → ((l3 ≤ l2 → wp_X8_loaves_49 Q m_many m_row m_isSpent) ∧
  (¬ (l3 ≤ l2) → wp_X8_in (fun (x43 : Int) => ((¬ x43 = 0 → wp_X8_gcd (fun (x57 : Int) => (0 < x57 ∧ 0 < x57 ∧ wp_X8_goRoad (fun (x74 : Int) (m_many_74 : Int) (m_row_74 : Int → Int) (m_isSpent_74 : Int) => ((0 ≤ x74 → (∃ n0 : Nat, wp_X8_loaves_97 Q n0 m_many_74 m_row_74 m_isSpent_74 l3 l4 x74 0 0 0)) ∧
  (¬ (0 ≤ x74) → Q x74 m_many_74 m_row_74 m_isSpent_74))) m_many m_row m_isSpent l1 (l2.tdiv x57) (l3.tdiv x57))) l2 l3) ∧
  (x43 = 0 → wp_X8_loaves_49 Q m_many m_row m_isSpent))) l4 0 2))))) l3 1 1000))) l2 1 1000))) l1
set_option maxHeartbeats 4000000 in
set_option maxRecDepth 100000 in
theorem c_X8_loaves (l : Launch) (D : va_G) (cI cJ : ClassId) (zt : Nat) (hX8 : Nat) (aX8_ups : Nat) (aX8_downs : Nat) (m_many : Int) (aX8_row : Nat) (m_isSpent : Int) (m_found : Int) (aX8_sumMany : Nat) (aX8_sumShares : Nat) (aX8_sumSet : Nat) (aX8_taken : Nat) (aX8_restUp : Nat) (aX8_restDown : Nat) (m_fewest : Int) (m_wishes : Int) (aX8_wished : Nat) (aX8_far : Nat) (aX8_queue : Nat) (m_divided : Int) (aX8_divisors : Nat) (aX8_least : Nat) (m_pairOne : Int) (m_pairTwo : Int) (m_sumUp : Int) (m_sumDown : Int) (m_row : Int → Int) (l1 : Int) (l2 : Int) (l3 : Int) (l4 : Int) (Q : Int → Int → (Int → Int) → Int → Prop) (r_m_many : r32 m_many) (r_m_row : rr64 m_row) (r_m_isSpent : r32 m_isSpent) (r_l1 : r32 l1) (r_l2 : r32 l2) (r_l3 : r32 l3) (r_l4 : r32 l4) (h : wp_X8_loaves Q m_many m_row m_isSpent l1 l2 l3 l4) : Ct l D cI cJ zt yX8_loaves cX8_loaves 15 (some .long) 4 0 0 [.ref hX8, .int (i32 l1), .int (i32 l2), .int (i32 l3), .int (i32 l4)] [(hX8, .inr (7, [.ref aX8_ups, .ref aX8_downs, .int (i32 m_many), .ref aX8_row, .int (i32 m_isSpent), .int (i32 m_found), .ref aX8_sumMany, .ref aX8_sumShares, .ref aX8_sumSet, .ref aX8_taken, .ref aX8_restUp, .ref aX8_restDown, .int (i32 m_fewest), .int (i32 m_wishes), .ref aX8_wished, .ref aX8_far, .ref aX8_queue, .int (i32 m_divided), .ref aX8_divisors, .ref aX8_least, .long (i64 m_pairOne), .long (i64 m_pairTwo), .long (i64 m_sumUp), .long (i64 m_sumDown)])), (aX8_row, aL cJ 17 m_row)] (po_X8_loaves cI cJ hX8 aX8_ups aX8_downs aX8_row m_found aX8_sumMany aX8_sumShares aX8_sumSet aX8_taken aX8_restUp aX8_restDown m_fewest m_wishes aX8_wished aX8_far aX8_queue m_divided aX8_divisors aX8_least m_pairOne m_pairTwo m_sumUp m_sumDown Q) := by
  refine ct_of (by decide +kernel) (Nat.le_of_ble_eq_true rfl) (fun X hl hDD hcI hcJ hzt hR hF hnm g => ?_)
  subst hl; subst hDD; subst hcI; subst hcJ; subst hzt
  show Wat X 0 0 0 [(0, .ref hX8), (1, .int (i32 l1)), (2, .int (i32 l2)), (3, .int (i32 l3)), (4, .int (i32 l4))] [] [(hX8, .inr (7, [.ref aX8_ups, .ref aX8_downs, .int (i32 m_many), .ref aX8_row, .int (i32 m_isSpent), .int (i32 m_found), .ref aX8_sumMany, .ref aX8_sumShares, .ref aX8_sumSet, .ref aX8_taken, .ref aX8_restUp, .ref aX8_restDown, .int (i32 m_fewest), .int (i32 m_wishes), .ref aX8_wished, .ref aX8_far, .ref aX8_queue, .int (i32 m_divided), .ref aX8_divisors, .ref aX8_least, .long (i64 m_pairOne), .long (i64 m_pairTwo), .long (i64 m_sumUp), .long (i64 m_sumDown)])), (aX8_row, aL X.cJ 17 m_row)]
  replace g : Gd X cX8_loaves RX8 (some .long) 15 := g
  rw [wp_X8_loaves] at h
  refine q_iload_n g 1 1 rfl dX8_loaves_0 ?_
  refine q_callS (lev := 2) (mc := 0) (ms := 0) (As := [.int (i32 l1)]) g 126 (c_X8_isRoad X.l X.D X.cI X.cJ X.zt l1 _ r_l1 h) (wr := [(hX8, .inr (7, [.ref aX8_ups, .ref aX8_downs, .int (i32 m_many), .ref aX8_row, .int (i32 m_isSpent), .int (i32 m_found), .ref aX8_sumMany, .ref aX8_sumShares, .ref aX8_sumSet, .ref aX8_taken, .ref aX8_restUp, .ref aX8_restDown, .int (i32 m_fewest), .int (i32 m_wishes), .ref aX8_wished, .ref aX8_far, .ref aX8_queue, .int (i32 m_divided), .ref aX8_divisors, .ref aX8_least, .long (i64 m_pairOne), .long (i64 m_pairTwo), .long (i64 m_sumUp), .long (i64 m_sumDown)])), (aX8_row, aL X.cJ 17 m_row)]) [] [0, 1] rfl rfl rfl (by decide) (by decide) (by decide) wM_X8_126 wT_X8_isRoad wZ_X8 wC_X8_isRoad 1 rfl (by decide +kernel) (by rw [hR]; exact ⟨by show 2 + 1 ≤ 4; omega, by show 8 + (1 + 11) + 100 * 2 ≤ 100 * 4; omega⟩) (by rw [hR]; exact ⟨Nat.le_refl _, Nat.le_refl _⟩) (Nat.le_of_ble_eq_true rfl) rfl dX8_loaves_1 (fun rv w1 hq => ?_)
  obtain ⟨x1, rfl, rfl, rx1, h⟩ := hq
  show Wat X 0 0 4 [(0, .ref hX8), (1, .int (i32 l1)), (2, .int (i32 l2)), (3, .int (i32 l3)), (4, .int (i32 l4))] [.int (i32 x1)] [(hX8, .inr (7, [.ref aX8_ups, .ref aX8_downs, .int (i32 m_many), .ref aX8_row, .int (i32 m_isSpent), .int (i32 m_found), .ref aX8_sumMany, .ref aX8_sumShares, .ref aX8_sumSet, .ref aX8_taken, .ref aX8_restUp, .ref aX8_restDown, .int (i32 m_fewest), .int (i32 m_wishes), .ref aX8_wished, .ref aX8_far, .ref aX8_queue, .int (i32 m_divided), .ref aX8_divisors, .ref aX8_least, .long (i64 m_pairOne), .long (i64 m_pairTwo), .long (i64 m_sumUp), .long (i64 m_sumDown)])), (aX8_row, aL X.cJ 17 m_row)]
  refine q_if_eq g (45) 49 rx1 (by decide) dX8_loaves_4 (fun b4 => ?_) (fun b4 => ?_)
  · replace h := h.1 b4
    refine q_lv (lv' := []) [] rfl ?_
    exact s_X8_loaves_49 g hR hX8 aX8_ups aX8_downs aX8_row m_found aX8_sumMany aX8_sumShares aX8_sumSet aX8_taken aX8_restUp aX8_restDown m_fewest m_wishes aX8_wished aX8_far aX8_queue m_divided aX8_divisors aX8_least m_pairOne m_pairTwo m_sumUp m_sumDown Q hF m_many m_row m_isSpent r_m_many r_m_row r_m_isSpent h
  replace h := h.2 b4
  refine q_iload_n g 2 2 rfl dX8_loaves_7 ?_
  refine q_i2l g r_l2 dX8_loaves_8 ?_
  refine q_lconst g 1 1 rfl dX8_loaves_9 ?_
  refine q_ldc2 (w := 1000) g 227 (1000) (by decide +kernel) wL_X8_227 dX8_loaves_10 ?_
  refine q_callS (lev := 1) (mc := 0) (ms := 0) (As := [.long (i64 l2), .long (i64 1), .long (i64 1000)]) g 60 (c_X8_in X.l X.D X.cI X.cJ X.zt l2 1 1000 _ (r32_64 r_l2) (r64_lit _ (by decide)) (r64_lit _ (by decide)) h) (wr := [(hX8, .inr (7, [.ref aX8_ups, .ref aX8_downs, .int (i32 m_many), .ref aX8_row, .int (i32 m_isSpent), .int (i32 m_found), .ref aX8_sumMany, .ref aX8_sumShares, .ref aX8_sumSet, .ref aX8_taken, .ref aX8_restUp, .ref aX8_restDown, .int (i32 m_fewest), .int (i32 m_wishes), .ref aX8_wished, .ref aX8_far, .ref aX8_queue, .int (i32 m_divided), .ref aX8_divisors, .ref aX8_least, .long (i64 m_pairOne), .long (i64 m_pairTwo), .long (i64 m_sumUp), .long (i64 m_sumDown)])), (aX8_row, aL X.cJ 17 m_row)]) [] [0, 1] rfl rfl rfl (by decide) (by decide) (by decide) wM_X8_60 wT_X8_in wZ_X8 wC_X8_in 3 rfl (by decide +kernel) (by rw [hR]; exact ⟨by show 1 + 1 ≤ 4; omega, by show 8 + (6 + 11) + 100 * 1 ≤ 100 * 4; omega⟩) (by rw [hR]; exact ⟨Nat.le_refl _, Nat.le_refl _⟩) (Nat.le_of_ble_eq_true rfl) rfl dX8_loaves_13 (fun rv w1 hq => ?_)
  obtain ⟨x13, rfl, rfl, rx13, h⟩ := hq
  show Wat X 0 0 16 [(0, .ref hX8), (1, .int (i32 l1)), (2, .int (i32 l2)), (3, .int (i32 l3)), (4, .int (i32 l4))] [.int (i32 x13)] [(hX8, .inr (7, [.ref aX8_ups, .ref aX8_downs, .int (i32 m_many), .ref aX8_row, .int (i32 m_isSpent), .int (i32 m_found), .ref aX8_sumMany, .ref aX8_sumShares, .ref aX8_sumSet, .ref aX8_taken, .ref aX8_restUp, .ref aX8_restDown, .int (i32 m_fewest), .int (i32 m_wishes), .ref aX8_wished, .ref aX8_far, .ref aX8_queue, .int (i32 m_divided), .ref aX8_divisors, .ref aX8_least, .long (i64 m_pairOne), .long (i64 m_pairTwo), .long (i64 m_sumUp), .long (i64 m_sumDown)])), (aX8_row, aL X.cJ 17 m_row)]
  refine q_if_eq g (33) 49 rx13 (by decide) dX8_loaves_16 (fun b16 => ?_) (fun b16 => ?_)
  · replace h := h.1 b16
    refine q_lv (lv' := []) [] rfl ?_
    exact s_X8_loaves_49 g hR hX8 aX8_ups aX8_downs aX8_row m_found aX8_sumMany aX8_sumShares aX8_sumSet aX8_taken aX8_restUp aX8_restDown m_fewest m_wishes aX8_wished aX8_far aX8_queue m_divided aX8_divisors aX8_least m_pairOne m_pairTwo m_sumUp m_sumDown Q hF m_many m_row m_isSpent r_m_many r_m_row r_m_isSpent h
  replace h := h.2 b16
  refine q_iload_n g 3 3 rfl dX8_loaves_19 ?_
  refine q_i2l g r_l3 dX8_loaves_20 ?_
  refine q_lconst g 1 1 rfl dX8_loaves_21 ?_
  refine q_ldc2 (w := 1000) g 227 (1000) (by decide +kernel) wL_X8_227 dX8_loaves_22 ?_
  refine q_callS (lev := 1) (mc := 0) (ms := 0) (As := [.long (i64 l3), .long (i64 1), .long (i64 1000)]) g 60 (c_X8_in X.l X.D X.cI X.cJ X.zt l3 1 1000 _ (r32_64 r_l3) (r64_lit _ (by decide)) (r64_lit _ (by decide)) h) (wr := [(hX8, .inr (7, [.ref aX8_ups, .ref aX8_downs, .int (i32 m_many), .ref aX8_row, .int (i32 m_isSpent), .int (i32 m_found), .ref aX8_sumMany, .ref aX8_sumShares, .ref aX8_sumSet, .ref aX8_taken, .ref aX8_restUp, .ref aX8_restDown, .int (i32 m_fewest), .int (i32 m_wishes), .ref aX8_wished, .ref aX8_far, .ref aX8_queue, .int (i32 m_divided), .ref aX8_divisors, .ref aX8_least, .long (i64 m_pairOne), .long (i64 m_pairTwo), .long (i64 m_sumUp), .long (i64 m_sumDown)])), (aX8_row, aL X.cJ 17 m_row)]) [] [0, 1] rfl rfl rfl (by decide) (by decide) (by decide) wM_X8_60 wT_X8_in wZ_X8 wC_X8_in 3 rfl (by decide +kernel) (by rw [hR]; exact ⟨by show 1 + 1 ≤ 4; omega, by show 8 + (6 + 11) + 100 * 1 ≤ 100 * 4; omega⟩) (by rw [hR]; exact ⟨Nat.le_refl _, Nat.le_refl _⟩) (Nat.le_of_ble_eq_true rfl) rfl dX8_loaves_25 (fun rv w1 hq => ?_)
  obtain ⟨x25, rfl, rfl, rx25, h⟩ := hq
  show Wat X 0 0 28 [(0, .ref hX8), (1, .int (i32 l1)), (2, .int (i32 l2)), (3, .int (i32 l3)), (4, .int (i32 l4))] [.int (i32 x25)] [(hX8, .inr (7, [.ref aX8_ups, .ref aX8_downs, .int (i32 m_many), .ref aX8_row, .int (i32 m_isSpent), .int (i32 m_found), .ref aX8_sumMany, .ref aX8_sumShares, .ref aX8_sumSet, .ref aX8_taken, .ref aX8_restUp, .ref aX8_restDown, .int (i32 m_fewest), .int (i32 m_wishes), .ref aX8_wished, .ref aX8_far, .ref aX8_queue, .int (i32 m_divided), .ref aX8_divisors, .ref aX8_least, .long (i64 m_pairOne), .long (i64 m_pairTwo), .long (i64 m_sumUp), .long (i64 m_sumDown)])), (aX8_row, aL X.cJ 17 m_row)]
  refine q_if_eq g (21) 49 rx25 (by decide) dX8_loaves_28 (fun b28 => ?_) (fun b28 => ?_)
  · replace h := h.1 b28
    refine q_lv (lv' := []) [] rfl ?_
    exact s_X8_loaves_49 g hR hX8 aX8_ups aX8_downs aX8_row m_found aX8_sumMany aX8_sumShares aX8_sumSet aX8_taken aX8_restUp aX8_restDown m_fewest m_wishes aX8_wished aX8_far aX8_queue m_divided aX8_divisors aX8_least m_pairOne m_pairTwo m_sumUp m_sumDown Q hF m_many m_row m_isSpent r_m_many r_m_row r_m_isSpent h
  replace h := h.2 b28
  refine q_iload_n g 2 2 rfl dX8_loaves_31 ?_
  refine q_iload_n g 3 3 rfl dX8_loaves_32 ?_
  refine q_icmp_ge g (16) 49 r_l2 r_l3 (by decide) dX8_loaves_33 (fun b33 => ?_) (fun b33 => ?_)
  · replace h := h.1 b33
    refine q_lv (lv' := []) [] rfl ?_
    exact s_X8_loaves_49 g hR hX8 aX8_ups aX8_downs aX8_row m_found aX8_sumMany aX8_sumShares aX8_sumSet aX8_taken aX8_restUp aX8_restDown m_fewest m_wishes aX8_wished aX8_far aX8_queue m_divided aX8_divisors aX8_least m_pairOne m_pairTwo m_sumUp m_sumDown Q hF m_many m_row m_isSpent r_m_many r_m_row r_m_isSpent h
  replace h := h.2 b33
  refine q_iload g 4 4 rfl dX8_loaves_36 ?_
  refine q_i2l g r_l4 dX8_loaves_38 ?_
  refine q_lconst g 0 0 rfl dX8_loaves_39 ?_
  refine q_ldc2 (w := 2) g 89 (2) (by decide +kernel) wL_X8_89 dX8_loaves_40 ?_
  refine q_callS (lev := 1) (mc := 0) (ms := 0) (As := [.long (i64 l4), .long (i64 0), .long (i64 2)]) g 60 (c_X8_in X.l X.D X.cI X.cJ X.zt l4 0 2 _ (r32_64 r_l4) (r64_lit _ (by decide)) (r64_lit _ (by decide)) h) (wr := [(hX8, .inr (7, [.ref aX8_ups, .ref aX8_downs, .int (i32 m_many), .ref aX8_row, .int (i32 m_isSpent), .int (i32 m_found), .ref aX8_sumMany, .ref aX8_sumShares, .ref aX8_sumSet, .ref aX8_taken, .ref aX8_restUp, .ref aX8_restDown, .int (i32 m_fewest), .int (i32 m_wishes), .ref aX8_wished, .ref aX8_far, .ref aX8_queue, .int (i32 m_divided), .ref aX8_divisors, .ref aX8_least, .long (i64 m_pairOne), .long (i64 m_pairTwo), .long (i64 m_sumUp), .long (i64 m_sumDown)])), (aX8_row, aL X.cJ 17 m_row)]) [] [0, 1] rfl rfl rfl (by decide) (by decide) (by decide) wM_X8_60 wT_X8_in wZ_X8 wC_X8_in 3 rfl (by decide +kernel) (by rw [hR]; exact ⟨by show 1 + 1 ≤ 4; omega, by show 8 + (6 + 11) + 100 * 1 ≤ 100 * 4; omega⟩) (by rw [hR]; exact ⟨Nat.le_refl _, Nat.le_refl _⟩) (Nat.le_of_ble_eq_true rfl) rfl dX8_loaves_43 (fun rv w1 hq => ?_)
  obtain ⟨x43, rfl, rfl, rx43, h⟩ := hq
  show Wat X 0 0 46 [(0, .ref hX8), (1, .int (i32 l1)), (2, .int (i32 l2)), (3, .int (i32 l3)), (4, .int (i32 l4))] [.int (i32 x43)] [(hX8, .inr (7, [.ref aX8_ups, .ref aX8_downs, .int (i32 m_many), .ref aX8_row, .int (i32 m_isSpent), .int (i32 m_found), .ref aX8_sumMany, .ref aX8_sumShares, .ref aX8_sumSet, .ref aX8_taken, .ref aX8_restUp, .ref aX8_restDown, .int (i32 m_fewest), .int (i32 m_wishes), .ref aX8_wished, .ref aX8_far, .ref aX8_queue, .int (i32 m_divided), .ref aX8_divisors, .ref aX8_least, .long (i64 m_pairOne), .long (i64 m_pairTwo), .long (i64 m_sumUp), .long (i64 m_sumDown)])), (aX8_row, aL X.cJ 17 m_row)]
  refine q_if_ne g (7) 53 rx43 (by decide) dX8_loaves_46 (fun b46 => ?_) (fun b46 => ?_)
  · replace h := h.1 b46
    refine q_iload_n g 2 2 rfl dX8_loaves_53 ?_
    refine q_i2l g r_l2 dX8_loaves_54 ?_
    refine q_iload_n g 3 3 rfl dX8_loaves_55 ?_
    refine q_i2l g r_l3 dX8_loaves_56 ?_
    refine q_callS (lev := 1) (mc := 0) (ms := 0) (As := [.long (i64 l2), .long (i64 l3)]) g 64 (c_X8_gcd X.l X.D X.cI X.cJ X.zt l2 l3 _ (r32_64 r_l2) (r32_64 r_l3) h) (wr := [(hX8, .inr (7, [.ref aX8_ups, .ref aX8_downs, .int (i32 m_many), .ref aX8_row, .int (i32 m_isSpent), .int (i32 m_found), .ref aX8_sumMany, .ref aX8_sumShares, .ref aX8_sumSet, .ref aX8_taken, .ref aX8_restUp, .ref aX8_restDown, .int (i32 m_fewest), .int (i32 m_wishes), .ref aX8_wished, .ref aX8_far, .ref aX8_queue, .int (i32 m_divided), .ref aX8_divisors, .ref aX8_least, .long (i64 m_pairOne), .long (i64 m_pairTwo), .long (i64 m_sumUp), .long (i64 m_sumDown)])), (aX8_row, aL X.cJ 17 m_row)]) [] [0, 1] rfl rfl rfl (by decide) (by decide) (by decide) wM_X8_64 wT_X8_gcd wZ_X8 wC_X8_gcd 2 rfl (by decide +kernel) (by rw [hR]; exact ⟨by show 1 + 1 ≤ 4; omega, by show 8 + (10 + 11) + 100 * 1 ≤ 100 * 4; omega⟩) (by rw [hR]; exact ⟨Nat.le_refl _, Nat.le_refl _⟩) (Nat.le_of_ble_eq_true rfl) rfl dX8_loaves_57 (fun rv w1 hq => ?_)
    obtain ⟨x57, rfl, rfl, rx57, h⟩ := hq
    show Wat X 0 0 60 [(0, .ref hX8), (1, .int (i32 l1)), (2, .int (i32 l2)), (3, .int (i32 l3)), (4, .int (i32 l4))] [.long (i64 x57)] [(hX8, .inr (7, [.ref aX8_ups, .ref aX8_downs, .int (i32 m_many), .ref aX8_row, .int (i32 m_isSpent), .int (i32 m_found), .ref aX8_sumMany, .ref aX8_sumShares, .ref aX8_sumSet, .ref aX8_taken, .ref aX8_restUp, .ref aX8_restDown, .int (i32 m_fewest), .int (i32 m_wishes), .ref aX8_wished, .ref aX8_far, .ref aX8_queue, .int (i32 m_divided), .ref aX8_divisors, .ref aX8_least, .long (i64 m_pairOne), .long (i64 m_pairTwo), .long (i64 m_sumUp), .long (i64 m_sumDown)])), (aX8_row, aL X.cJ 17 m_row)]
    refine q_lstore (lv' := [(5, .long (i64 x57)), (0, .ref hX8), (1, .int (i32 l1)), (2, .int (i32 l2)), (3, .int (i32 l3)), (4, .int (i32 l4))]) g 5   (by decide) rfl dX8_loaves_60 ?_
    refine q_aload_n g 0 1 rfl dX8_loaves_62 ?_
    refine q_iload_n g 1 2 rfl dX8_loaves_63 ?_
    refine q_iload_n g 2 3 rfl dX8_loaves_64 ?_
    refine q_i2l g r_l2 dX8_loaves_65 ?_
    refine q_lload g 5 0 rfl dX8_loaves_66 ?_
    obtain ⟨c68, h⟩ := h
    refine q_ldiv g (r32_64 r_l2) rx57 (ne_of_pos c68) dX8_loaves_68 ?_
    refine q_iload_n g 3 4 rfl dX8_loaves_69 ?_
    refine q_i2l g r_l3 dX8_loaves_70 ?_
    refine q_lload g 5 0 rfl dX8_loaves_71 ?_
    obtain ⟨c73, h⟩ := h
    refine q_ldiv g (r32_64 r_l3) rx57 (ne_of_pos c73) dX8_loaves_73 ?_
    refine q_callV (lev := 3) (mc := 0) (ms := 0) g 129 (c_X8_goRoad X.l X.D X.cI X.cJ X.zt hX8 aX8_ups aX8_downs m_many aX8_row m_isSpent m_found aX8_sumMany aX8_sumShares aX8_sumSet aX8_taken aX8_restUp aX8_restDown m_fewest m_wishes aX8_wished aX8_far aX8_queue m_divided aX8_divisors aX8_least m_pairOne m_pairTwo m_sumUp m_sumDown m_row l1 (l2.tdiv x57) (l3.tdiv x57) _ r_m_many r_m_row r_m_isSpent r_l1 (r64_tdiv (r32_64 r_l2) c68) (r64_tdiv (r32_64 r_l3) c73) h) (wr := []) [0, 1] [] rfl rfl rfl (by decide) (by decide) (by decide) (ci := 7) rfl rfl rfl wM_X8_129 wI_X8_goRoad wS_X8_goRoad wZ_X8 wC_X8_goRoad 3 rfl (by decide +kernel) (by rw [hR]; exact ⟨by show 3 + 1 ≤ 4; omega, by show 8 + (6 + 11) + 100 * 3 ≤ 100 * 4; omega⟩) (by rw [hR]; exact ⟨Nat.le_refl _, Nat.le_refl _⟩) (Nat.le_of_ble_eq_true rfl) rfl dX8_loaves_74 (fun rv w1 hq => ?_)
    obtain ⟨x74, m_many_74, m_row_74, m_isSpent_74, rfl, rfl, rx74, rm_many_74, rm_row_74, rm_isSpent_74, h⟩ := hq
    show Wat X 0 0 77 [(5, .long (i64 x57)), (0, .ref hX8), (1, .int (i32 l1)), (2, .int (i32 l2)), (3, .int (i32 l3)), (4, .int (i32 l4))] [.int (i32 x74)] [(hX8, .inr (7, [.ref aX8_ups, .ref aX8_downs, .int (i32 m_many_74), .ref aX8_row, .int (i32 m_isSpent_74), .int (i32 m_found), .ref aX8_sumMany, .ref aX8_sumShares, .ref aX8_sumSet, .ref aX8_taken, .ref aX8_restUp, .ref aX8_restDown, .int (i32 m_fewest), .int (i32 m_wishes), .ref aX8_wished, .ref aX8_far, .ref aX8_queue, .int (i32 m_divided), .ref aX8_divisors, .ref aX8_least, .long (i64 m_pairOne), .long (i64 m_pairTwo), .long (i64 m_sumUp), .long (i64 m_sumDown)])), (aX8_row, aL X.cJ 17 m_row_74)]
    refine q_istore (lv' := [(7, .int (i32 x74)), (5, .long (i64 x57)), (0, .ref hX8), (1, .int (i32 l1)), (2, .int (i32 l2)), (3, .int (i32 l3)), (4, .int (i32 l4))]) g 7   (by decide) rfl dX8_loaves_77 ?_
    refine q_iload g 7 0 rfl dX8_loaves_79 ?_
    refine q_if_ge g (7) 88 rx74 (by decide) dX8_loaves_81 (fun b81 => ?_) (fun b81 => ?_)
    · replace h := h.1 b81
      refine q_lconst g 0 0 rfl dX8_loaves_88 ?_
      refine q_lstore (lv' := [(8, .long (i64 0)), (7, .int (i32 x74)), (5, .long (i64 x57)), (0, .ref hX8), (1, .int (i32 l1)), (2, .int (i32 l2)), (3, .int (i32 l3)), (4, .int (i32 l4))]) g 8   (by decide) rfl dX8_loaves_89 ?_
      refine q_lconst g 0 0 rfl dX8_loaves_91 ?_
      refine q_lstore (lv' := [(10, .long (i64 0)), (8, .long (i64 0)), (7, .int (i32 x74)), (5, .long (i64 x57)), (0, .ref hX8), (1, .int (i32 l1)), (2, .int (i32 l2)), (3, .int (i32 l3)), (4, .int (i32 l4))]) g 10   (by decide) rfl dX8_loaves_92 ?_
      refine q_iconst g (0) dX8_loaves_94 ?_
      refine q_istore (lv' := [(12, .int (i32 0)), (10, .long (i64 0)), (8, .long (i64 0)), (7, .int (i32 x74)), (5, .long (i64 x57)), (0, .ref hX8), (1, .int (i32 l1)), (2, .int (i32 l2)), (3, .int (i32 l3)), (4, .int (i32 l4))]) g 12   (by decide) rfl dX8_loaves_95 ?_
      refine q_lv (lv' := [(0, .ref hX8), (3, .int (i32 l3)), (4, .int (i32 l4)), (7, .int (i32 x74)), (8, .long (i64 0)), (10, .long (i64 0)), (12, .int (i32 0))]) [5, 8, 9, 3, 2, 1, 0] rfl ?_
      obtain ⟨n0, h⟩ := h
      exact s_X8_loaves_97 g hR hX8 aX8_ups aX8_downs aX8_row m_found aX8_sumMany aX8_sumShares aX8_sumSet aX8_taken aX8_restUp aX8_restDown m_fewest m_wishes aX8_wished aX8_far aX8_queue m_divided aX8_divisors aX8_least m_pairOne m_pairTwo m_sumUp m_sumDown Q hF n0 m_many_74 m_row_74 m_isSpent_74 l3 l4 x74 0 0 0 rm_many_74 rm_row_74 rm_isSpent_74 r_l3 r_l4 rx74 (r64_lit _ (by decide)) (r64_lit _ (by decide)) (r32_lit _ (by decide)) h
    replace h := h.2 b81
    refine q_iload g 7 0 rfl dX8_loaves_84 ?_
    refine q_i2l g rx74 dX8_loaves_86 ?_
    exact q_lret g hF ⟨x74, m_many_74, m_row_74, m_isSpent_74, rfl, rfl, (r32_64 rx74), rm_many_74, rm_row_74, rm_isSpent_74, h⟩ dX8_loaves_87
  replace h := h.2 b46
  refine q_lv (lv' := []) [] rfl ?_
  exact s_X8_loaves_49 g hR hX8 aX8_ups aX8_downs aX8_row m_found aX8_sumMany aX8_sumShares aX8_sumSet aX8_taken aX8_restUp aX8_restDown m_fewest m_wishes aX8_wished aX8_far aX8_queue m_divided aX8_divisors aX8_least m_pairOne m_pairTwo m_sumUp m_sumDown Q hF m_many m_row m_isSpent r_m_many r_m_row r_m_isSpent h
theorem dX8_multiple_0 : decode cX8_multiple 0 = .ok (.iload_n 1, 1) := by decide +kernel
theorem dX8_multiple_1 : decode cX8_multiple 1 = .ok (.invokestatic 68, 3) := by decide +kernel
theorem dX8_multiple_4 : decode cX8_multiple 4 = .ok (.ifCond .eq 11, 3) := by decide +kernel
theorem dX8_multiple_7 : decode cX8_multiple 7 = .ok (.aload_n 0, 1) := by decide +kernel
theorem dX8_multiple_8 : decode cX8_multiple 8 = .ok (.iload_n 1, 1) := by decide +kernel
theorem dX8_multiple_9 : decode cX8_multiple 9 = .ok (.invokevirtual 192, 3) := by decide +kernel
theorem dX8_multiple_12 : decode cX8_multiple 12 = .ok (.goto 4, 3) := by decide +kernel
theorem dX8_multiple_15 : decode cX8_multiple 15 = .ok (.iconst (-1), 1) := by decide +kernel
theorem dX8_multiple_16 : decode cX8_multiple 16 = .ok (.ireturn, 1) := by decide +kernel
abbrev po_X8_multiple (cI cJ : ClassId) (hX8 : Nat) (aX8_ups : Nat) (aX8_downs : Nat) (m_many : Int) (aX8_row : Nat) (m_isSpent : Int) (m_found : Int) (aX8_sumMany : Nat) (aX8_sumShares : Nat) (aX8_sumSet : Nat) (aX8_taken : Nat) (aX8_restUp : Nat) (aX8_restDown : Nat) (m_fewest : Int) (m_wishes : Int) (aX8_wished : Nat) (aX8_far : Nat) (aX8_queue : Nat) (aX8_divisors : Nat) (aX8_least : Nat) (m_pairOne : Int) (m_pairTwo : Int) (m_sumUp : Int) (m_sumDown : Int) (m_ups : Int → Int) (m_downs : Int → Int) (Q : Int → Int → (Int → Int) → (Int → Int) → Prop) : Option Value → va_W → Prop := fun rv w1 => ∃ (r0 : Int) (m_divided : Int) (m_divisors : Int → Int) (m_least : Int → Int), rv = some (.int (i32 r0)) ∧ w1 = [(hX8, .inr (7, [.ref aX8_ups, .ref aX8_downs, .int (i32 m_many), .ref aX8_row, .int (i32 m_isSpent), .int (i32 m_found), .ref aX8_sumMany, .ref aX8_sumShares, .ref aX8_sumSet, .ref aX8_taken, .ref aX8_restUp, .ref aX8_restDown, .int (i32 m_fewest), .int (i32 m_wishes), .ref aX8_wished, .ref aX8_far, .ref aX8_queue, .int (i32 m_divided), .ref aX8_divisors, .ref aX8_least, .long (i64 m_pairOne), .long (i64 m_pairTwo), .long (i64 m_sumUp), .long (i64 m_sumDown)])), (aX8_ups, aI cI 8 m_ups), (aX8_downs, aI cI 8 m_downs), (aX8_divisors, aI cI 60 m_divisors), (aX8_least, aI cI 305061 m_least)] ∧ r32 r0 ∧ r32 m_divided ∧ rr32 m_divisors ∧ rr32 m_least ∧ Q r0 m_divided m_divisors m_least
def wp_X8_multiple_16 (Q : Int → Int → (Int → Int) → (Int → Int) → Prop) (m_ups : Int → Int) (m_downs : Int → Int) (m_divided : Int) (m_divisors : Int → Int) (m_least : Int → Int) (k0 : Int) : Prop := Q k0 m_divided m_divisors m_least
set_option maxHeartbeats 4000000 in
set_option maxRecDepth 100000 in
theorem s_X8_multiple_16 {X : Cx} (g : Gd X cX8_multiple RX8 (some .int) 2) (hR : X.R = rmL 4 0 0) (hX8 : Nat) (aX8_ups : Nat) (aX8_downs : Nat) (m_many : Int) (aX8_row : Nat) (m_isSpent : Int) (m_found : Int) (aX8_sumMany : Nat) (aX8_sumShares : Nat) (aX8_sumSet : Nat) (aX8_taken : Nat) (aX8_restUp : Nat) (aX8_restDown : Nat) (m_fewest : Int) (m_wishes : Int) (aX8_wished : Nat) (aX8_far : Nat) (aX8_queue : Nat) (aX8_divisors : Nat) (aX8_least : Nat) (m_pairOne : Int) (m_pairTwo : Int) (m_sumUp : Int) (m_sumDown : Int) (m_ups : Int → Int) (m_downs : Int → Int) (r_m_ups : rr32 m_ups) (r_m_downs : rr32 m_downs) (Q : Int → Int → (Int → Int) → (Int → Int) → Prop) (hF : FQ X 0 0 (po_X8_multiple X.cI X.cJ hX8 aX8_ups aX8_downs m_many aX8_row m_isSpent m_found aX8_sumMany aX8_sumShares aX8_sumSet aX8_taken aX8_restUp aX8_restDown m_fewest m_wishes aX8_wished aX8_far aX8_queue aX8_divisors aX8_least m_pairOne m_pairTwo m_sumUp m_sumDown m_ups m_downs Q)) : ∀ (m_divided : Int) (m_divisors : Int → Int) (m_least : Int → Int) (k0 : Int), r32 m_divided → rr32 m_divisors → rr32 m_least → r32 k0 → wp_X8_multiple_16 Q m_ups m_downs m_divided m_divisors m_least k0 → Wat X 0 0 16 [] [.int (i32 k0)] [(hX8, .inr (7, [.ref aX8_ups, .ref aX8_downs, .int (i32 m_many), .ref aX8_row, .int (i32 m_isSpent), .int (i32 m_found), .ref aX8_sumMany, .ref aX8_sumShares, .ref aX8_sumSet, .ref aX8_taken, .ref aX8_restUp, .ref aX8_restDown, .int (i32 m_fewest), .int (i32 m_wishes), .ref aX8_wished, .ref aX8_far, .ref aX8_queue, .int (i32 m_divided), .ref aX8_divisors, .ref aX8_least, .long (i64 m_pairOne), .long (i64 m_pairTwo), .long (i64 m_sumUp), .long (i64 m_sumDown)])), (aX8_ups, aI X.cI 8 m_ups), (aX8_downs, aI X.cI 8 m_downs), (aX8_divisors, aI X.cI 60 m_divisors), (aX8_least, aI X.cI 305061 m_least)] := by
  intro m_divided m_divisors m_least k0 r_m_divided r_m_divisors r_m_least r_k0 h
  rw [wp_X8_multiple_16] at h
  exact q_iret g hF ⟨k0, m_divided, m_divisors, m_least, rfl, rfl, r_k0, r_m_divided, r_m_divisors, r_m_least, h⟩ dX8_multiple_16
def wp_X8_multiple (Q : Int → Int → (Int → Int) → (Int → Int) → Prop) (m_ups : Int → Int) (m_downs : Int → Int) (m_divided : Int) (m_divisors : Int → Int) (m_least : Int → Int) (l1 : Int) : Prop := wp_X8_isRegister (fun (x1 : Int) => ((x1 = 0 → wp_X8_multiple_16 Q m_ups m_downs m_divided m_divisors m_least (-1)) ∧
  (¬ (x1 = 0) → wp_X8_multipleOf (fun (x9 : Int) (m_divided_9 : Int) (m_divisors_9 : Int → Int) (m_least_9 : Int → Int) => wp_X8_multiple_16 Q m_ups m_downs m_divided_9 m_divisors_9 m_least_9 x9) m_ups m_downs m_divided m_divisors m_least l1))) l1
set_option maxHeartbeats 4000000 in
set_option maxRecDepth 100000 in
theorem c_X8_multiple (l : Launch) (D : va_G) (cI cJ : ClassId) (zt : Nat) (hX8 : Nat) (aX8_ups : Nat) (aX8_downs : Nat) (m_many : Int) (aX8_row : Nat) (m_isSpent : Int) (m_found : Int) (aX8_sumMany : Nat) (aX8_sumShares : Nat) (aX8_sumSet : Nat) (aX8_taken : Nat) (aX8_restUp : Nat) (aX8_restDown : Nat) (m_fewest : Int) (m_wishes : Int) (aX8_wished : Nat) (aX8_far : Nat) (aX8_queue : Nat) (m_divided : Int) (aX8_divisors : Nat) (aX8_least : Nat) (m_pairOne : Int) (m_pairTwo : Int) (m_sumUp : Int) (m_sumDown : Int) (m_ups : Int → Int) (m_downs : Int → Int) (m_divisors : Int → Int) (m_least : Int → Int) (l1 : Int) (Q : Int → Int → (Int → Int) → (Int → Int) → Prop) (r_m_ups : rr32 m_ups) (r_m_downs : rr32 m_downs) (r_m_divided : r32 m_divided) (r_m_divisors : rr32 m_divisors) (r_m_least : rr32 m_least) (r_l1 : r32 l1) (h : wp_X8_multiple Q m_ups m_downs m_divided m_divisors m_least l1) : Ct l D cI cJ zt yX8_multiple cX8_multiple 2 (some .int) 4 0 0 [.ref hX8, .int (i32 l1)] [(hX8, .inr (7, [.ref aX8_ups, .ref aX8_downs, .int (i32 m_many), .ref aX8_row, .int (i32 m_isSpent), .int (i32 m_found), .ref aX8_sumMany, .ref aX8_sumShares, .ref aX8_sumSet, .ref aX8_taken, .ref aX8_restUp, .ref aX8_restDown, .int (i32 m_fewest), .int (i32 m_wishes), .ref aX8_wished, .ref aX8_far, .ref aX8_queue, .int (i32 m_divided), .ref aX8_divisors, .ref aX8_least, .long (i64 m_pairOne), .long (i64 m_pairTwo), .long (i64 m_sumUp), .long (i64 m_sumDown)])), (aX8_ups, aI cI 8 m_ups), (aX8_downs, aI cI 8 m_downs), (aX8_divisors, aI cI 60 m_divisors), (aX8_least, aI cI 305061 m_least)] (po_X8_multiple cI cJ hX8 aX8_ups aX8_downs m_many aX8_row m_isSpent m_found aX8_sumMany aX8_sumShares aX8_sumSet aX8_taken aX8_restUp aX8_restDown m_fewest m_wishes aX8_wished aX8_far aX8_queue aX8_divisors aX8_least m_pairOne m_pairTwo m_sumUp m_sumDown m_ups m_downs Q) := by
  refine ct_of (by decide +kernel) (Nat.le_of_ble_eq_true rfl) (fun X hl hDD hcI hcJ hzt hR hF hnm g => ?_)
  subst hl; subst hDD; subst hcI; subst hcJ; subst hzt
  show Wat X 0 0 0 [(0, .ref hX8), (1, .int (i32 l1))] [] [(hX8, .inr (7, [.ref aX8_ups, .ref aX8_downs, .int (i32 m_many), .ref aX8_row, .int (i32 m_isSpent), .int (i32 m_found), .ref aX8_sumMany, .ref aX8_sumShares, .ref aX8_sumSet, .ref aX8_taken, .ref aX8_restUp, .ref aX8_restDown, .int (i32 m_fewest), .int (i32 m_wishes), .ref aX8_wished, .ref aX8_far, .ref aX8_queue, .int (i32 m_divided), .ref aX8_divisors, .ref aX8_least, .long (i64 m_pairOne), .long (i64 m_pairTwo), .long (i64 m_sumUp), .long (i64 m_sumDown)])), (aX8_ups, aI X.cI 8 m_ups), (aX8_downs, aI X.cI 8 m_downs), (aX8_divisors, aI X.cI 60 m_divisors), (aX8_least, aI X.cI 305061 m_least)]
  replace g : Gd X cX8_multiple RX8 (some .int) 2 := g
  rw [wp_X8_multiple] at h
  refine q_iload_n g 1 1 rfl dX8_multiple_0 ?_
  refine q_callS (lev := 2) (mc := 0) (ms := 0) (As := [.int (i32 l1)]) g 68 (c_X8_isRegister X.l X.D X.cI X.cJ X.zt l1 _ r_l1 h) (wr := [(hX8, .inr (7, [.ref aX8_ups, .ref aX8_downs, .int (i32 m_many), .ref aX8_row, .int (i32 m_isSpent), .int (i32 m_found), .ref aX8_sumMany, .ref aX8_sumShares, .ref aX8_sumSet, .ref aX8_taken, .ref aX8_restUp, .ref aX8_restDown, .int (i32 m_fewest), .int (i32 m_wishes), .ref aX8_wished, .ref aX8_far, .ref aX8_queue, .int (i32 m_divided), .ref aX8_divisors, .ref aX8_least, .long (i64 m_pairOne), .long (i64 m_pairTwo), .long (i64 m_sumUp), .long (i64 m_sumDown)])), (aX8_ups, aI X.cI 8 m_ups), (aX8_downs, aI X.cI 8 m_downs), (aX8_divisors, aI X.cI 60 m_divisors), (aX8_least, aI X.cI 305061 m_least)]) [] [0, 1, 2, 3, 4] rfl rfl rfl (by decide) (by decide) (by decide) wM_X8_68 wT_X8_isRegister wZ_X8 wC_X8_isRegister 1 rfl (by decide +kernel) (by rw [hR]; exact ⟨by show 2 + 1 ≤ 4; omega, by show 8 + (1 + 11) + 100 * 2 ≤ 100 * 4; omega⟩) (by rw [hR]; exact ⟨Nat.le_refl _, Nat.le_refl _⟩) (Nat.le_of_ble_eq_true rfl) rfl dX8_multiple_1 (fun rv w1 hq => ?_)
  obtain ⟨x1, rfl, rfl, rx1, h⟩ := hq
  show Wat X 0 0 4 [(0, .ref hX8), (1, .int (i32 l1))] [.int (i32 x1)] [(hX8, .inr (7, [.ref aX8_ups, .ref aX8_downs, .int (i32 m_many), .ref aX8_row, .int (i32 m_isSpent), .int (i32 m_found), .ref aX8_sumMany, .ref aX8_sumShares, .ref aX8_sumSet, .ref aX8_taken, .ref aX8_restUp, .ref aX8_restDown, .int (i32 m_fewest), .int (i32 m_wishes), .ref aX8_wished, .ref aX8_far, .ref aX8_queue, .int (i32 m_divided), .ref aX8_divisors, .ref aX8_least, .long (i64 m_pairOne), .long (i64 m_pairTwo), .long (i64 m_sumUp), .long (i64 m_sumDown)])), (aX8_ups, aI X.cI 8 m_ups), (aX8_downs, aI X.cI 8 m_downs), (aX8_divisors, aI X.cI 60 m_divisors), (aX8_least, aI X.cI 305061 m_least)]
  refine q_if_eq g (11) 15 rx1 (by decide) dX8_multiple_4 (fun b4 => ?_) (fun b4 => ?_)
  · replace h := h.1 b4
    refine q_iconst g (-1) dX8_multiple_15 ?_
    refine q_lv (lv' := []) [] rfl ?_
    exact s_X8_multiple_16 g hR hX8 aX8_ups aX8_downs m_many aX8_row m_isSpent m_found aX8_sumMany aX8_sumShares aX8_sumSet aX8_taken aX8_restUp aX8_restDown m_fewest m_wishes aX8_wished aX8_far aX8_queue aX8_divisors aX8_least m_pairOne m_pairTwo m_sumUp m_sumDown m_ups m_downs r_m_ups r_m_downs Q hF m_divided m_divisors m_least (-1) r_m_divided r_m_divisors r_m_least (r32_lit _ (by decide)) h
  replace h := h.2 b4
  refine q_aload_n g 0 0 rfl dX8_multiple_7 ?_
  refine q_iload_n g 1 1 rfl dX8_multiple_8 ?_
  refine q_callV (lev := 3) (mc := 0) (ms := 0) g 192 (c_X8_multipleOf X.l X.D X.cI X.cJ X.zt hX8 aX8_ups aX8_downs m_many aX8_row m_isSpent m_found aX8_sumMany aX8_sumShares aX8_sumSet aX8_taken aX8_restUp aX8_restDown m_fewest m_wishes aX8_wished aX8_far aX8_queue m_divided aX8_divisors aX8_least m_pairOne m_pairTwo m_sumUp m_sumDown m_ups m_downs m_divisors m_least l1 _ r_m_ups r_m_downs r_m_divided r_m_divisors r_m_least r_l1 h) (wr := []) [0, 1, 2, 3, 4] [] rfl rfl rfl (by decide) (by decide) (by decide) (ci := 7) rfl rfl rfl wM_X8_192 wI_X8_multipleOf wS_X8_multipleOf wZ_X8 wC_X8_multipleOf 1 rfl (by decide +kernel) (by rw [hR]; exact ⟨by show 3 + 1 ≤ 4; omega, by show 8 + (2 + 11) + 100 * 3 ≤ 100 * 4; omega⟩) (by rw [hR]; exact ⟨Nat.le_refl _, Nat.le_refl _⟩) (Nat.le_of_ble_eq_true rfl) rfl dX8_multiple_9 (fun rv w1 hq => ?_)
  obtain ⟨x9, m_divided_9, m_divisors_9, m_least_9, rfl, rfl, rx9, rm_divided_9, rm_divisors_9, rm_least_9, h⟩ := hq
  show Wat X 0 0 12 [(0, .ref hX8), (1, .int (i32 l1))] [.int (i32 x9)] [(hX8, .inr (7, [.ref aX8_ups, .ref aX8_downs, .int (i32 m_many), .ref aX8_row, .int (i32 m_isSpent), .int (i32 m_found), .ref aX8_sumMany, .ref aX8_sumShares, .ref aX8_sumSet, .ref aX8_taken, .ref aX8_restUp, .ref aX8_restDown, .int (i32 m_fewest), .int (i32 m_wishes), .ref aX8_wished, .ref aX8_far, .ref aX8_queue, .int (i32 m_divided_9), .ref aX8_divisors, .ref aX8_least, .long (i64 m_pairOne), .long (i64 m_pairTwo), .long (i64 m_sumUp), .long (i64 m_sumDown)])), (aX8_ups, aI X.cI 8 m_ups), (aX8_downs, aI X.cI 8 m_downs), (aX8_divisors, aI X.cI 60 m_divisors_9), (aX8_least, aI X.cI 305061 m_least_9)]
  refine q_goto g (4) 16 (by decide) dX8_multiple_12 ?_
  refine q_lv (lv' := []) [] rfl ?_
  exact s_X8_multiple_16 g hR hX8 aX8_ups aX8_downs m_many aX8_row m_isSpent m_found aX8_sumMany aX8_sumShares aX8_sumSet aX8_taken aX8_restUp aX8_restDown m_fewest m_wishes aX8_wished aX8_far aX8_queue aX8_divisors aX8_least m_pairOne m_pairTwo m_sumUp m_sumDown m_ups m_downs r_m_ups r_m_downs Q hF m_divided_9 m_divisors_9 m_least_9 x9 rm_divided_9 rm_divisors_9 rm_least_9 rx9 h
theorem dX8_pair_0 : decode cX8_pair 0 = .ok (.iload_n 1, 1) := by decide +kernel
theorem dX8_pair_1 : decode cX8_pair 1 = .ok (.invokestatic 68, 3) := by decide +kernel
theorem dX8_pair_4 : decode cX8_pair 4 = .ok (.ifCond .eq 17, 3) := by decide +kernel
theorem dX8_pair_7 : decode cX8_pair 7 = .ok (.iload_n 2, 1) := by decide +kernel
theorem dX8_pair_8 : decode cX8_pair 8 = .ok (.ifCond .lt 13, 3) := by decide +kernel
theorem dX8_pair_11 : decode cX8_pair 11 = .ok (.iload_n 3, 1) := by decide +kernel
theorem dX8_pair_12 : decode cX8_pair 12 = .ok (.i2l, 1) := by decide +kernel
theorem dX8_pair_13 : decode cX8_pair 13 = .ok (.lconst 0, 1) := by decide +kernel
theorem dX8_pair_14 : decode cX8_pair 14 = .ok (.lconst 1, 1) := by decide +kernel
theorem dX8_pair_15 : decode cX8_pair 15 = .ok (.invokestatic 60, 3) := by decide +kernel
theorem dX8_pair_18 : decode cX8_pair 18 = .ok (.ifCond .ne 7, 3) := by decide +kernel
theorem dX8_pair_21 : decode cX8_pair 21 = .ok (.ldc2_w 133, 3) := by decide +kernel
theorem dX8_pair_24 : decode cX8_pair 24 = .ok (.lreturn, 1) := by decide +kernel
theorem dX8_pair_25 : decode cX8_pair 25 = .ok (.aload_n 0, 1) := by decide +kernel
theorem dX8_pair_26 : decode cX8_pair 26 = .ok (.iload_n 1, 1) := by decide +kernel
theorem dX8_pair_27 : decode cX8_pair 27 = .ok (.sipush 5000, 3) := by decide +kernel
theorem dX8_pair_30 : decode cX8_pair 30 = .ok (.invokevirtual 205, 3) := by decide +kernel
theorem dX8_pair_33 : decode cX8_pair 33 = .ok (.ifCond .ne 7, 3) := by decide +kernel
theorem dX8_pair_36 : decode cX8_pair 36 = .ok (.ldc2_w 212, 3) := by decide +kernel
theorem dX8_pair_39 : decode cX8_pair 39 = .ok (.lreturn, 1) := by decide +kernel
theorem dX8_pair_40 : decode cX8_pair 40 = .ok (.aload_n 0, 1) := by decide +kernel
theorem dX8_pair_41 : decode cX8_pair 41 = .ok (.aload_n 0, 1) := by decide +kernel
theorem dX8_pair_42 : decode cX8_pair 42 = .ok (.getfield 7, 3) := by decide +kernel
theorem dX8_pair_45 : decode cX8_pair 45 = .ok (.iload_n 1, 1) := by decide +kernel
theorem dX8_pair_46 : decode cX8_pair 46 = .ok (.iaload, 1) := by decide +kernel
theorem dX8_pair_47 : decode cX8_pair 47 = .ok (.i2l, 1) := by decide +kernel
theorem dX8_pair_48 : decode cX8_pair 48 = .ok (.aload_n 0, 1) := by decide +kernel
theorem dX8_pair_49 : decode cX8_pair 49 = .ok (.getfield 13, 3) := by decide +kernel
theorem dX8_pair_52 : decode cX8_pair 52 = .ok (.iload_n 1, 1) := by decide +kernel
theorem dX8_pair_53 : decode cX8_pair 53 = .ok (.iaload, 1) := by decide +kernel
theorem dX8_pair_54 : decode cX8_pair 54 = .ok (.i2l, 1) := by decide +kernel
theorem dX8_pair_55 : decode cX8_pair 55 = .ok (.iload_n 2, 1) := by decide +kernel
theorem dX8_pair_56 : decode cX8_pair 56 = .ok (.invokevirtual 208, 3) := by decide +kernel
theorem dX8_pair_59 : decode cX8_pair 59 = .ok (.istore 4, 2) := by decide +kernel
theorem dX8_pair_61 : decode cX8_pair 61 = .ok (.iload_n 2, 1) := by decide +kernel
theorem dX8_pair_62 : decode cX8_pair 62 = .ok (.i2l, 1) := by decide +kernel
theorem dX8_pair_63 : decode cX8_pair 63 = .ok (.lconst 0, 1) := by decide +kernel
theorem dX8_pair_64 : decode cX8_pair 64 = .ok (.iload 4, 2) := by decide +kernel
theorem dX8_pair_66 : decode cX8_pair 66 = .ok (.iconst 1, 1) := by decide +kernel
theorem dX8_pair_67 : decode cX8_pair 67 = .ok (.isub, 1) := by decide +kernel
theorem dX8_pair_68 : decode cX8_pair 68 = .ok (.i2l, 1) := by decide +kernel
theorem dX8_pair_69 : decode cX8_pair 69 = .ok (.invokestatic 60, 3) := by decide +kernel
theorem dX8_pair_72 : decode cX8_pair 72 = .ok (.ifCond .ne 9, 3) := by decide +kernel
theorem dX8_pair_75 : decode cX8_pair 75 = .ok (.ldc2_w 135, 3) := by decide +kernel
theorem dX8_pair_78 : decode cX8_pair 78 = .ok (.goto 18, 3) := by decide +kernel
theorem dX8_pair_81 : decode cX8_pair 81 = .ok (.iload_n 3, 1) := by decide +kernel
theorem dX8_pair_82 : decode cX8_pair 82 = .ok (.ifCond .ne 10, 3) := by decide +kernel
theorem dX8_pair_85 : decode cX8_pair 85 = .ok (.aload_n 0, 1) := by decide +kernel
theorem dX8_pair_86 : decode cX8_pair 86 = .ok (.getfield 198, 3) := by decide +kernel
theorem dX8_pair_89 : decode cX8_pair 89 = .ok (.goto 7, 3) := by decide +kernel
theorem dX8_pair_92 : decode cX8_pair 92 = .ok (.aload_n 0, 1) := by decide +kernel
theorem dX8_pair_93 : decode cX8_pair 93 = .ok (.getfield 202, 3) := by decide +kernel
theorem dX8_pair_96 : decode cX8_pair 96 = .ok (.lreturn, 1) := by decide +kernel
abbrev po_X8_pair (cI cJ : ClassId) (hX8 : Nat) (aX8_ups : Nat) (aX8_downs : Nat) (m_many : Int) (aX8_row : Nat) (m_isSpent : Int) (m_found : Int) (aX8_sumMany : Nat) (aX8_sumShares : Nat) (aX8_sumSet : Nat) (aX8_taken : Nat) (aX8_restUp : Nat) (aX8_restDown : Nat) (m_fewest : Int) (m_wishes : Int) (aX8_wished : Nat) (aX8_far : Nat) (aX8_queue : Nat) (m_divided : Int) (aX8_divisors : Nat) (aX8_least : Nat) (m_sumUp : Int) (m_sumDown : Int) (m_ups : Int → Int) (m_downs : Int → Int) (Q : Int → Int → Int → Prop) : Option Value → va_W → Prop := fun rv w1 => ∃ (r0 : Int) (m_pairOne : Int) (m_pairTwo : Int), rv = some (.long (i64 r0)) ∧ w1 = [(hX8, .inr (7, [.ref aX8_ups, .ref aX8_downs, .int (i32 m_many), .ref aX8_row, .int (i32 m_isSpent), .int (i32 m_found), .ref aX8_sumMany, .ref aX8_sumShares, .ref aX8_sumSet, .ref aX8_taken, .ref aX8_restUp, .ref aX8_restDown, .int (i32 m_fewest), .int (i32 m_wishes), .ref aX8_wished, .ref aX8_far, .ref aX8_queue, .int (i32 m_divided), .ref aX8_divisors, .ref aX8_least, .long (i64 m_pairOne), .long (i64 m_pairTwo), .long (i64 m_sumUp), .long (i64 m_sumDown)])), (aX8_ups, aI cI 8 m_ups), (aX8_downs, aI cI 8 m_downs)] ∧ r64 r0 ∧ r64 m_pairOne ∧ r64 m_pairTwo ∧ Q r0 m_pairOne m_pairTwo
def wp_X8_pair_21 (Q : Int → Int → Int → Prop) (m_ups : Int → Int) (m_downs : Int → Int) (m_pairOne : Int) (m_pairTwo : Int) : Prop := Q (-1) m_pairOne m_pairTwo
set_option maxHeartbeats 4000000 in
set_option maxRecDepth 100000 in
theorem s_X8_pair_21 {X : Cx} (g : Gd X cX8_pair RX8 (some .long) 5) (hR : X.R = rmL 3 0 0) (hX8 : Nat) (aX8_ups : Nat) (aX8_downs : Nat) (m_many : Int) (aX8_row : Nat) (m_isSpent : Int) (m_found : Int) (aX8_sumMany : Nat) (aX8_sumShares : Nat) (aX8_sumSet : Nat) (aX8_taken : Nat) (aX8_restUp : Nat) (aX8_restDown : Nat) (m_fewest : Int) (m_wishes : Int) (aX8_wished : Nat) (aX8_far : Nat) (aX8_queue : Nat) (m_divided : Int) (aX8_divisors : Nat) (aX8_least : Nat) (m_sumUp : Int) (m_sumDown : Int) (m_ups : Int → Int) (m_downs : Int → Int) (r_m_ups : rr32 m_ups) (r_m_downs : rr32 m_downs) (Q : Int → Int → Int → Prop) (hF : FQ X 0 0 (po_X8_pair X.cI X.cJ hX8 aX8_ups aX8_downs m_many aX8_row m_isSpent m_found aX8_sumMany aX8_sumShares aX8_sumSet aX8_taken aX8_restUp aX8_restDown m_fewest m_wishes aX8_wished aX8_far aX8_queue m_divided aX8_divisors aX8_least m_sumUp m_sumDown m_ups m_downs Q)) : ∀ (m_pairOne : Int) (m_pairTwo : Int), r64 m_pairOne → r64 m_pairTwo → wp_X8_pair_21 Q m_ups m_downs m_pairOne m_pairTwo → Wat X 0 0 21 [] [] [(hX8, .inr (7, [.ref aX8_ups, .ref aX8_downs, .int (i32 m_many), .ref aX8_row, .int (i32 m_isSpent), .int (i32 m_found), .ref aX8_sumMany, .ref aX8_sumShares, .ref aX8_sumSet, .ref aX8_taken, .ref aX8_restUp, .ref aX8_restDown, .int (i32 m_fewest), .int (i32 m_wishes), .ref aX8_wished, .ref aX8_far, .ref aX8_queue, .int (i32 m_divided), .ref aX8_divisors, .ref aX8_least, .long (i64 m_pairOne), .long (i64 m_pairTwo), .long (i64 m_sumUp), .long (i64 m_sumDown)])), (aX8_ups, aI X.cI 8 m_ups), (aX8_downs, aI X.cI 8 m_downs)] := by
  intro m_pairOne m_pairTwo r_m_pairOne r_m_pairTwo h
  rw [wp_X8_pair_21] at h
  refine q_ldc2 (w := (-1)) g 133 (-1) (by decide +kernel) wL_X8_133 dX8_pair_21 ?_
  exact q_lret g hF ⟨(-1), m_pairOne, m_pairTwo, rfl, rfl, (r64_lit _ (by decide)), r_m_pairOne, r_m_pairTwo, h⟩ dX8_pair_24
def wp_X8_pair_96 (Q : Int → Int → Int → Prop) (m_ups : Int → Int) (m_downs : Int → Int) (m_pairOne : Int) (m_pairTwo : Int) (k0 : Int) : Prop := Q k0 m_pairOne m_pairTwo
set_option maxHeartbeats 4000000 in
set_option maxRecDepth 100000 in
theorem s_X8_pair_96 {X : Cx} (g : Gd X cX8_pair RX8 (some .long) 5) (hR : X.R = rmL 3 0 0) (hX8 : Nat) (aX8_ups : Nat) (aX8_downs : Nat) (m_many : Int) (aX8_row : Nat) (m_isSpent : Int) (m_found : Int) (aX8_sumMany : Nat) (aX8_sumShares : Nat) (aX8_sumSet : Nat) (aX8_taken : Nat) (aX8_restUp : Nat) (aX8_restDown : Nat) (m_fewest : Int) (m_wishes : Int) (aX8_wished : Nat) (aX8_far : Nat) (aX8_queue : Nat) (m_divided : Int) (aX8_divisors : Nat) (aX8_least : Nat) (m_sumUp : Int) (m_sumDown : Int) (m_ups : Int → Int) (m_downs : Int → Int) (r_m_ups : rr32 m_ups) (r_m_downs : rr32 m_downs) (Q : Int → Int → Int → Prop) (hF : FQ X 0 0 (po_X8_pair X.cI X.cJ hX8 aX8_ups aX8_downs m_many aX8_row m_isSpent m_found aX8_sumMany aX8_sumShares aX8_sumSet aX8_taken aX8_restUp aX8_restDown m_fewest m_wishes aX8_wished aX8_far aX8_queue m_divided aX8_divisors aX8_least m_sumUp m_sumDown m_ups m_downs Q)) : ∀ (m_pairOne : Int) (m_pairTwo : Int) (k0 : Int), r64 m_pairOne → r64 m_pairTwo → r64 k0 → wp_X8_pair_96 Q m_ups m_downs m_pairOne m_pairTwo k0 → Wat X 0 0 96 [] [.long (i64 k0)] [(hX8, .inr (7, [.ref aX8_ups, .ref aX8_downs, .int (i32 m_many), .ref aX8_row, .int (i32 m_isSpent), .int (i32 m_found), .ref aX8_sumMany, .ref aX8_sumShares, .ref aX8_sumSet, .ref aX8_taken, .ref aX8_restUp, .ref aX8_restDown, .int (i32 m_fewest), .int (i32 m_wishes), .ref aX8_wished, .ref aX8_far, .ref aX8_queue, .int (i32 m_divided), .ref aX8_divisors, .ref aX8_least, .long (i64 m_pairOne), .long (i64 m_pairTwo), .long (i64 m_sumUp), .long (i64 m_sumDown)])), (aX8_ups, aI X.cI 8 m_ups), (aX8_downs, aI X.cI 8 m_downs)] := by
  intro m_pairOne m_pairTwo k0 r_m_pairOne r_m_pairTwo r_k0 h
  rw [wp_X8_pair_96] at h
  exact q_lret g hF ⟨k0, m_pairOne, m_pairTwo, rfl, rfl, r_k0, r_m_pairOne, r_m_pairTwo, h⟩ dX8_pair_96
def wp_X8_pair (Q : Int → Int → Int → Prop) (m_ups : Int → Int) (m_downs : Int → Int) (m_pairOne : Int) (m_pairTwo : Int) (l1 : Int) (l2 : Int) (l3 : Int) : Prop := wp_X8_isRegister (fun (x1 : Int) => ((x1 = 0 → wp_X8_pair_21 Q m_ups m_downs m_pairOne m_pairTwo) ∧
  (¬ (x1 = 0) → ((l2 < 0 → wp_X8_pair_21 Q m_ups m_downs m_pairOne m_pairTwo) ∧
  (¬ (l2 < 0) → wp_X8_in (fun (x15 : Int) => ((¬ x15 = 0 → wp_X8_isUpTo (fun (x30 : Int) => ((¬ x30 = 0 → (0 ≤ l1 ∧ l1 < 8 ∧ 0 ≤ l1 ∧ l1 < 8 ∧ wp_X8_findPairs (fun (x56 : Int) (m_pairOne_56 : Int) (m_pairTwo_56 : Int) => (r32 (x56 - 1) ∧ wp_X8_in (fun (x69 : Int) => ((¬ x69 = 0 → ((¬ l3 = 0 → wp_X8_pair_96 Q m_ups m_downs m_pairOne_56 m_pairTwo_56 m_pairTwo_56) ∧
  (l3 = 0 → wp_X8_pair_96 Q m_ups m_downs m_pairOne_56 m_pairTwo_56 m_pairOne_56))) ∧
  (x69 = 0 → wp_X8_pair_96 Q m_ups m_downs m_pairOne_56 m_pairTwo_56 (-4)))) l2 0 (x56 - 1))) m_pairOne m_pairTwo (m_ups l1) (m_downs l1) l2)) ∧
  (x30 = 0 → Q (-2) m_pairOne m_pairTwo))) m_ups m_downs l1 5000) ∧
  (x15 = 0 → wp_X8_pair_21 Q m_ups m_downs m_pairOne m_pairTwo))) l3 0 1))))) l1
set_option maxHeartbeats 4000000 in
set_option maxRecDepth 100000 in
theorem c_X8_pair (l : Launch) (D : va_G) (cI cJ : ClassId) (zt : Nat) (hX8 : Nat) (aX8_ups : Nat) (aX8_downs : Nat) (m_many : Int) (aX8_row : Nat) (m_isSpent : Int) (m_found : Int) (aX8_sumMany : Nat) (aX8_sumShares : Nat) (aX8_sumSet : Nat) (aX8_taken : Nat) (aX8_restUp : Nat) (aX8_restDown : Nat) (m_fewest : Int) (m_wishes : Int) (aX8_wished : Nat) (aX8_far : Nat) (aX8_queue : Nat) (m_divided : Int) (aX8_divisors : Nat) (aX8_least : Nat) (m_pairOne : Int) (m_pairTwo : Int) (m_sumUp : Int) (m_sumDown : Int) (m_ups : Int → Int) (m_downs : Int → Int) (l1 : Int) (l2 : Int) (l3 : Int) (Q : Int → Int → Int → Prop) (r_m_ups : rr32 m_ups) (r_m_downs : rr32 m_downs) (r_m_pairOne : r64 m_pairOne) (r_m_pairTwo : r64 m_pairTwo) (r_l1 : r32 l1) (r_l2 : r32 l2) (r_l3 : r32 l3) (h : wp_X8_pair Q m_ups m_downs m_pairOne m_pairTwo l1 l2 l3) : Ct l D cI cJ zt yX8_pair cX8_pair 5 (some .long) 3 0 0 [.ref hX8, .int (i32 l1), .int (i32 l2), .int (i32 l3)] [(hX8, .inr (7, [.ref aX8_ups, .ref aX8_downs, .int (i32 m_many), .ref aX8_row, .int (i32 m_isSpent), .int (i32 m_found), .ref aX8_sumMany, .ref aX8_sumShares, .ref aX8_sumSet, .ref aX8_taken, .ref aX8_restUp, .ref aX8_restDown, .int (i32 m_fewest), .int (i32 m_wishes), .ref aX8_wished, .ref aX8_far, .ref aX8_queue, .int (i32 m_divided), .ref aX8_divisors, .ref aX8_least, .long (i64 m_pairOne), .long (i64 m_pairTwo), .long (i64 m_sumUp), .long (i64 m_sumDown)])), (aX8_ups, aI cI 8 m_ups), (aX8_downs, aI cI 8 m_downs)] (po_X8_pair cI cJ hX8 aX8_ups aX8_downs m_many aX8_row m_isSpent m_found aX8_sumMany aX8_sumShares aX8_sumSet aX8_taken aX8_restUp aX8_restDown m_fewest m_wishes aX8_wished aX8_far aX8_queue m_divided aX8_divisors aX8_least m_sumUp m_sumDown m_ups m_downs Q) := by
  refine ct_of (by decide +kernel) (Nat.le_of_ble_eq_true rfl) (fun X hl hDD hcI hcJ hzt hR hF hnm g => ?_)
  subst hl; subst hDD; subst hcI; subst hcJ; subst hzt
  show Wat X 0 0 0 [(0, .ref hX8), (1, .int (i32 l1)), (2, .int (i32 l2)), (3, .int (i32 l3))] [] [(hX8, .inr (7, [.ref aX8_ups, .ref aX8_downs, .int (i32 m_many), .ref aX8_row, .int (i32 m_isSpent), .int (i32 m_found), .ref aX8_sumMany, .ref aX8_sumShares, .ref aX8_sumSet, .ref aX8_taken, .ref aX8_restUp, .ref aX8_restDown, .int (i32 m_fewest), .int (i32 m_wishes), .ref aX8_wished, .ref aX8_far, .ref aX8_queue, .int (i32 m_divided), .ref aX8_divisors, .ref aX8_least, .long (i64 m_pairOne), .long (i64 m_pairTwo), .long (i64 m_sumUp), .long (i64 m_sumDown)])), (aX8_ups, aI X.cI 8 m_ups), (aX8_downs, aI X.cI 8 m_downs)]
  replace g : Gd X cX8_pair RX8 (some .long) 5 := g
  rw [wp_X8_pair] at h
  refine q_iload_n g 1 1 rfl dX8_pair_0 ?_
  refine q_callS (lev := 2) (mc := 0) (ms := 0) (As := [.int (i32 l1)]) g 68 (c_X8_isRegister X.l X.D X.cI X.cJ X.zt l1 _ r_l1 h) (wr := [(hX8, .inr (7, [.ref aX8_ups, .ref aX8_downs, .int (i32 m_many), .ref aX8_row, .int (i32 m_isSpent), .int (i32 m_found), .ref aX8_sumMany, .ref aX8_sumShares, .ref aX8_sumSet, .ref aX8_taken, .ref aX8_restUp, .ref aX8_restDown, .int (i32 m_fewest), .int (i32 m_wishes), .ref aX8_wished, .ref aX8_far, .ref aX8_queue, .int (i32 m_divided), .ref aX8_divisors, .ref aX8_least, .long (i64 m_pairOne), .long (i64 m_pairTwo), .long (i64 m_sumUp), .long (i64 m_sumDown)])), (aX8_ups, aI X.cI 8 m_ups), (aX8_downs, aI X.cI 8 m_downs)]) [] [0, 1, 2] rfl rfl rfl (by decide) (by decide) (by decide) wM_X8_68 wT_X8_isRegister wZ_X8 wC_X8_isRegister 1 rfl (by decide +kernel) (by rw [hR]; exact ⟨by show 2 + 1 ≤ 3; omega, by show 8 + (1 + 11) + 100 * 2 ≤ 100 * 3; omega⟩) (by rw [hR]; exact ⟨Nat.le_refl _, Nat.le_refl _⟩) (Nat.le_of_ble_eq_true rfl) rfl dX8_pair_1 (fun rv w1 hq => ?_)
  obtain ⟨x1, rfl, rfl, rx1, h⟩ := hq
  show Wat X 0 0 4 [(0, .ref hX8), (1, .int (i32 l1)), (2, .int (i32 l2)), (3, .int (i32 l3))] [.int (i32 x1)] [(hX8, .inr (7, [.ref aX8_ups, .ref aX8_downs, .int (i32 m_many), .ref aX8_row, .int (i32 m_isSpent), .int (i32 m_found), .ref aX8_sumMany, .ref aX8_sumShares, .ref aX8_sumSet, .ref aX8_taken, .ref aX8_restUp, .ref aX8_restDown, .int (i32 m_fewest), .int (i32 m_wishes), .ref aX8_wished, .ref aX8_far, .ref aX8_queue, .int (i32 m_divided), .ref aX8_divisors, .ref aX8_least, .long (i64 m_pairOne), .long (i64 m_pairTwo), .long (i64 m_sumUp), .long (i64 m_sumDown)])), (aX8_ups, aI X.cI 8 m_ups), (aX8_downs, aI X.cI 8 m_downs)]
  refine q_if_eq g (17) 21 rx1 (by decide) dX8_pair_4 (fun b4 => ?_) (fun b4 => ?_)
  · replace h := h.1 b4
    refine q_lv (lv' := []) [] rfl ?_
    exact s_X8_pair_21 g hR hX8 aX8_ups aX8_downs m_many aX8_row m_isSpent m_found aX8_sumMany aX8_sumShares aX8_sumSet aX8_taken aX8_restUp aX8_restDown m_fewest m_wishes aX8_wished aX8_far aX8_queue m_divided aX8_divisors aX8_least m_sumUp m_sumDown m_ups m_downs r_m_ups r_m_downs Q hF m_pairOne m_pairTwo r_m_pairOne r_m_pairTwo h
  replace h := h.2 b4
  refine q_iload_n g 2 2 rfl dX8_pair_7 ?_
  refine q_if_lt g (13) 21 r_l2 (by decide) dX8_pair_8 (fun b8 => ?_) (fun b8 => ?_)
  · replace h := h.1 b8
    refine q_lv (lv' := []) [] rfl ?_
    exact s_X8_pair_21 g hR hX8 aX8_ups aX8_downs m_many aX8_row m_isSpent m_found aX8_sumMany aX8_sumShares aX8_sumSet aX8_taken aX8_restUp aX8_restDown m_fewest m_wishes aX8_wished aX8_far aX8_queue m_divided aX8_divisors aX8_least m_sumUp m_sumDown m_ups m_downs r_m_ups r_m_downs Q hF m_pairOne m_pairTwo r_m_pairOne r_m_pairTwo h
  replace h := h.2 b8
  refine q_iload_n g 3 3 rfl dX8_pair_11 ?_
  refine q_i2l g r_l3 dX8_pair_12 ?_
  refine q_lconst g 0 0 rfl dX8_pair_13 ?_
  refine q_lconst g 1 1 rfl dX8_pair_14 ?_
  refine q_callS (lev := 1) (mc := 0) (ms := 0) (As := [.long (i64 l3), .long (i64 0), .long (i64 1)]) g 60 (c_X8_in X.l X.D X.cI X.cJ X.zt l3 0 1 _ (r32_64 r_l3) (r64_lit _ (by decide)) (r64_lit _ (by decide)) h) (wr := [(hX8, .inr (7, [.ref aX8_ups, .ref aX8_downs, .int (i32 m_many), .ref aX8_row, .int (i32 m_isSpent), .int (i32 m_found), .ref aX8_sumMany, .ref aX8_sumShares, .ref aX8_sumSet, .ref aX8_taken, .ref aX8_restUp, .ref aX8_restDown, .int (i32 m_fewest), .int (i32 m_wishes), .ref aX8_wished, .ref aX8_far, .ref aX8_queue, .int (i32 m_divided), .ref aX8_divisors, .ref aX8_least, .long (i64 m_pairOne), .long (i64 m_pairTwo), .long (i64 m_sumUp), .long (i64 m_sumDown)])), (aX8_ups, aI X.cI 8 m_ups), (aX8_downs, aI X.cI 8 m_downs)]) [] [0, 1, 2] rfl rfl rfl (by decide) (by decide) (by decide) wM_X8_60 wT_X8_in wZ_X8 wC_X8_in 3 rfl (by decide +kernel) (by rw [hR]; exact ⟨by show 1 + 1 ≤ 3; omega, by show 8 + (6 + 11) + 100 * 1 ≤ 100 * 3; omega⟩) (by rw [hR]; exact ⟨Nat.le_refl _, Nat.le_refl _⟩) (Nat.le_of_ble_eq_true rfl) rfl dX8_pair_15 (fun rv w1 hq => ?_)
  obtain ⟨x15, rfl, rfl, rx15, h⟩ := hq
  show Wat X 0 0 18 [(0, .ref hX8), (1, .int (i32 l1)), (2, .int (i32 l2)), (3, .int (i32 l3))] [.int (i32 x15)] [(hX8, .inr (7, [.ref aX8_ups, .ref aX8_downs, .int (i32 m_many), .ref aX8_row, .int (i32 m_isSpent), .int (i32 m_found), .ref aX8_sumMany, .ref aX8_sumShares, .ref aX8_sumSet, .ref aX8_taken, .ref aX8_restUp, .ref aX8_restDown, .int (i32 m_fewest), .int (i32 m_wishes), .ref aX8_wished, .ref aX8_far, .ref aX8_queue, .int (i32 m_divided), .ref aX8_divisors, .ref aX8_least, .long (i64 m_pairOne), .long (i64 m_pairTwo), .long (i64 m_sumUp), .long (i64 m_sumDown)])), (aX8_ups, aI X.cI 8 m_ups), (aX8_downs, aI X.cI 8 m_downs)]
  refine q_if_ne g (7) 25 rx15 (by decide) dX8_pair_18 (fun b18 => ?_) (fun b18 => ?_)
  · replace h := h.1 b18
    refine q_aload_n g 0 0 rfl dX8_pair_25 ?_
    refine q_iload_n g 1 1 rfl dX8_pair_26 ?_
    refine q_sipush g (5000) (by decide) (by decide) dX8_pair_27 ?_
    refine q_callV (lev := 2) (mc := 0) (ms := 0) g 205 (c_X8_isUpTo X.l X.D X.cI X.cJ X.zt hX8 aX8_ups aX8_downs m_many aX8_row m_isSpent m_found aX8_sumMany aX8_sumShares aX8_sumSet aX8_taken aX8_restUp aX8_restDown m_fewest m_wishes aX8_wished aX8_far aX8_queue m_divided aX8_divisors aX8_least m_pairOne m_pairTwo m_sumUp m_sumDown m_ups m_downs l1 5000 _ r_m_ups r_m_downs r_l1 (r32_lit _ (by decide)) h) (wr := []) [0, 1, 2] [] rfl rfl rfl (by decide) (by decide) (by decide) (ci := 7) rfl rfl rfl wM_X8_205 wI_X8_isUpTo wS_X8_isUpTo wZ_X8 wC_X8_isUpTo 2 rfl (by decide +kernel) (by rw [hR]; exact ⟨by show 2 + 1 ≤ 3; omega, by show 8 + (3 + 11) + 100 * 2 ≤ 100 * 3; omega⟩) (by rw [hR]; exact ⟨Nat.le_refl _, Nat.le_refl _⟩) (Nat.le_of_ble_eq_true rfl) rfl dX8_pair_30 (fun rv w1 hq => ?_)
    obtain ⟨x30, rfl, rfl, rx30, h⟩ := hq
    show Wat X 0 0 33 [(0, .ref hX8), (1, .int (i32 l1)), (2, .int (i32 l2)), (3, .int (i32 l3))] [.int (i32 x30)] [(hX8, .inr (7, [.ref aX8_ups, .ref aX8_downs, .int (i32 m_many), .ref aX8_row, .int (i32 m_isSpent), .int (i32 m_found), .ref aX8_sumMany, .ref aX8_sumShares, .ref aX8_sumSet, .ref aX8_taken, .ref aX8_restUp, .ref aX8_restDown, .int (i32 m_fewest), .int (i32 m_wishes), .ref aX8_wished, .ref aX8_far, .ref aX8_queue, .int (i32 m_divided), .ref aX8_divisors, .ref aX8_least, .long (i64 m_pairOne), .long (i64 m_pairTwo), .long (i64 m_sumUp), .long (i64 m_sumDown)])), (aX8_ups, aI X.cI 8 m_ups), (aX8_downs, aI X.cI 8 m_downs)]
    refine q_if_ne g (7) 40 rx30 (by decide) dX8_pair_33 (fun b33 => ?_) (fun b33 => ?_)
    · replace h := h.1 b33
      refine q_aload_n g 0 0 rfl dX8_pair_40 ?_
      refine q_aload_n g 0 0 rfl dX8_pair_41 ?_
      refine q_get (C := RX8) (T := TX8) (N := 24) g 7 inX8 0 0 rfl rfl (by decide) wF_X8_7 rfl dX8_pair_42 ?_
      refine q_iload_n g 1 1 rfl dX8_pair_45 ?_
      obtain ⟨c46, h⟩ := h
      obtain ⟨e46, h⟩ := h
      refine q_iald g 1 rfl c46 e46 (by decide) dX8_pair_46 ?_
      refine q_i2l g (r_m_ups _) dX8_pair_47 ?_
      refine q_aload_n g 0 0 rfl dX8_pair_48 ?_
      refine q_get (C := RX8) (T := TX8) (N := 24) g 13 inX8 0 1 rfl rfl (by decide) wF_X8_13 rfl dX8_pair_49 ?_
      refine q_iload_n g 1 1 rfl dX8_pair_52 ?_
      obtain ⟨c53, h⟩ := h
      obtain ⟨e53, h⟩ := h
      refine q_iald g 2 rfl c53 e53 (by decide) dX8_pair_53 ?_
      refine q_i2l g (r_m_downs _) dX8_pair_54 ?_
      refine q_iload_n g 2 2 rfl dX8_pair_55 ?_
      refine q_callV (lev := 1) (mc := 0) (ms := 0) g 208 (c_X8_findPairs X.l X.D X.cI X.cJ X.zt hX8 aX8_ups aX8_downs m_many aX8_row m_isSpent m_found aX8_sumMany aX8_sumShares aX8_sumSet aX8_taken aX8_restUp aX8_restDown m_fewest m_wishes aX8_wished aX8_far aX8_queue m_divided aX8_divisors aX8_least m_pairOne m_pairTwo m_sumUp m_sumDown (m_ups l1) (m_downs l1) l2 _ r_m_pairOne r_m_pairTwo (r32_64 (r_m_ups _)) (r32_64 (r_m_downs _)) r_l2 h) (wr := [(aX8_ups, aI X.cI 8 m_ups), (aX8_downs, aI X.cI 8 m_downs)]) [0] [1, 2] rfl rfl rfl (by decide) (by decide) (by decide) (ci := 7) rfl rfl rfl wM_X8_208 wI_X8_findPairs wS_X8_findPairs wZ_X8 wC_X8_findPairs 3 rfl (by decide +kernel) (by rw [hR]; exact ⟨by show 1 + 1 ≤ 3; omega, by show 8 + (10 + 11) + 100 * 1 ≤ 100 * 3; omega⟩) (by rw [hR]; exact ⟨Nat.le_refl _, Nat.le_refl _⟩) (Nat.le_of_ble_eq_true rfl) rfl dX8_pair_56 (fun rv w1 hq => ?_)
      obtain ⟨x56, m_pairOne_56, m_pairTwo_56, rfl, rfl, rx56, rm_pairOne_56, rm_pairTwo_56, h⟩ := hq
      refine q_ws (ws' := [(hX8, .inr (7, [.ref aX8_ups, .ref aX8_downs, .int (i32 m_many), .ref aX8_row, .int (i32 m_isSpent), .int (i32 m_found), .ref aX8_sumMany, .ref aX8_sumShares, .ref aX8_sumSet, .ref aX8_taken, .ref aX8_restUp, .ref aX8_restDown, .int (i32 m_fewest), .int (i32 m_wishes), .ref aX8_wished, .ref aX8_far, .ref aX8_queue, .int (i32 m_divided), .ref aX8_divisors, .ref aX8_least, .long (i64 m_pairOne_56), .long (i64 m_pairTwo_56), .long (i64 m_sumUp), .long (i64 m_sumDown)])), (aX8_ups, aI X.cI 8 m_ups), (aX8_downs, aI X.cI 8 m_downs)]) [2, 0, 1] (by decide) rfl rfl ?_
      show Wat X 0 0 59 [(0, .ref hX8), (1, .int (i32 l1)), (2, .int (i32 l2)), (3, .int (i32 l3))] [.int (i32 x56)] [(hX8, .inr (7, [.ref aX8_ups, .ref aX8_downs, .int (i32 m_many), .ref aX8_row, .int (i32 m_isSpent), .int (i32 m_found), .ref aX8_sumMany, .ref aX8_sumShares, .ref aX8_sumSet, .ref aX8_taken, .ref aX8_restUp, .ref aX8_restDown, .int (i32 m_fewest), .int (i32 m_wishes), .ref aX8_wished, .ref aX8_far, .ref aX8_queue, .int (i32 m_divided), .ref aX8_divisors, .ref aX8_least, .long (i64 m_pairOne_56), .long (i64 m_pairTwo_56), .long (i64 m_sumUp), .long (i64 m_sumDown)])), (aX8_ups, aI X.cI 8 m_ups), (aX8_downs, aI X.cI 8 m_downs)]
      refine q_istore (lv' := [(4, .int (i32 x56)), (0, .ref hX8), (1, .int (i32 l1)), (2, .int (i32 l2)), (3, .int (i32 l3))]) g 4   (by decide) rfl dX8_pair_59 ?_
      refine q_iload_n g 2 3 rfl dX8_pair_61 ?_
      refine q_i2l g r_l2 dX8_pair_62 ?_
      refine q_lconst g 0 0 rfl dX8_pair_63 ?_
      refine q_iload g 4 0 rfl dX8_pair_64 ?_
      refine q_iconst g (1) dX8_pair_66 ?_
      obtain ⟨c67, h⟩ := h
      refine q_isub g dX8_pair_67 ?_
      refine q_i2l g c67 dX8_pair_68 ?_
      refine q_callS (lev := 1) (mc := 0) (ms := 0) (As := [.long (i64 l2), .long (i64 0), .long (i64 (x56 - 1))]) g 60 (c_X8_in X.l X.D X.cI X.cJ X.zt l2 0 (x56 - 1) _ (r32_64 r_l2) (r64_lit _ (by decide)) (r32_64 c67) h) (wr := [(hX8, .inr (7, [.ref aX8_ups, .ref aX8_downs, .int (i32 m_many), .ref aX8_row, .int (i32 m_isSpent), .int (i32 m_found), .ref aX8_sumMany, .ref aX8_sumShares, .ref aX8_sumSet, .ref aX8_taken, .ref aX8_restUp, .ref aX8_restDown, .int (i32 m_fewest), .int (i32 m_wishes), .ref aX8_wished, .ref aX8_far, .ref aX8_queue, .int (i32 m_divided), .ref aX8_divisors, .ref aX8_least, .long (i64 m_pairOne_56), .long (i64 m_pairTwo_56), .long (i64 m_sumUp), .long (i64 m_sumDown)])), (aX8_ups, aI X.cI 8 m_ups), (aX8_downs, aI X.cI 8 m_downs)]) [] [0, 1, 2] rfl rfl rfl (by decide) (by decide) (by decide) wM_X8_60 wT_X8_in wZ_X8 wC_X8_in 3 rfl (by decide +kernel) (by rw [hR]; exact ⟨by show 1 + 1 ≤ 3; omega, by show 8 + (6 + 11) + 100 * 1 ≤ 100 * 3; omega⟩) (by rw [hR]; exact ⟨Nat.le_refl _, Nat.le_refl _⟩) (Nat.le_of_ble_eq_true rfl) rfl dX8_pair_69 (fun rv w1 hq => ?_)
      obtain ⟨x69, rfl, rfl, rx69, h⟩ := hq
      show Wat X 0 0 72 [(4, .int (i32 x56)), (0, .ref hX8), (1, .int (i32 l1)), (2, .int (i32 l2)), (3, .int (i32 l3))] [.int (i32 x69)] [(hX8, .inr (7, [.ref aX8_ups, .ref aX8_downs, .int (i32 m_many), .ref aX8_row, .int (i32 m_isSpent), .int (i32 m_found), .ref aX8_sumMany, .ref aX8_sumShares, .ref aX8_sumSet, .ref aX8_taken, .ref aX8_restUp, .ref aX8_restDown, .int (i32 m_fewest), .int (i32 m_wishes), .ref aX8_wished, .ref aX8_far, .ref aX8_queue, .int (i32 m_divided), .ref aX8_divisors, .ref aX8_least, .long (i64 m_pairOne_56), .long (i64 m_pairTwo_56), .long (i64 m_sumUp), .long (i64 m_sumDown)])), (aX8_ups, aI X.cI 8 m_ups), (aX8_downs, aI X.cI 8 m_downs)]
      refine q_if_ne g (9) 81 rx69 (by decide) dX8_pair_72 (fun b72 => ?_) (fun b72 => ?_)
      · replace h := h.1 b72
        refine q_iload_n g 3 4 rfl dX8_pair_81 ?_
        refine q_if_ne g (10) 92 r_l3 (by decide) dX8_pair_82 (fun b82 => ?_) (fun b82 => ?_)
        · replace h := h.1 b82
          refine q_aload_n g 0 1 rfl dX8_pair_92 ?_
          refine q_get (C := RX8) (T := TX8) (N := 24) g 202 inX8 0 21 rfl rfl (by decide) wF_X8_202 rfl dX8_pair_93 ?_
          refine q_lv (lv' := []) [] rfl ?_
          exact s_X8_pair_96 g hR hX8 aX8_ups aX8_downs m_many aX8_row m_isSpent m_found aX8_sumMany aX8_sumShares aX8_sumSet aX8_taken aX8_restUp aX8_restDown m_fewest m_wishes aX8_wished aX8_far aX8_queue m_divided aX8_divisors aX8_least m_sumUp m_sumDown m_ups m_downs r_m_ups r_m_downs Q hF m_pairOne_56 m_pairTwo_56 m_pairTwo_56 rm_pairOne_56 rm_pairTwo_56 rm_pairTwo_56 h
        replace h := h.2 b82
        refine q_aload_n g 0 1 rfl dX8_pair_85 ?_
        refine q_get (C := RX8) (T := TX8) (N := 24) g 198 inX8 0 20 rfl rfl (by decide) wF_X8_198 rfl dX8_pair_86 ?_
        refine q_goto g (7) 96 (by decide) dX8_pair_89 ?_
        refine q_lv (lv' := []) [] rfl ?_
        exact s_X8_pair_96 g hR hX8 aX8_ups aX8_downs m_many aX8_row m_isSpent m_found aX8_sumMany aX8_sumShares aX8_sumSet aX8_taken aX8_restUp aX8_restDown m_fewest m_wishes aX8_wished aX8_far aX8_queue m_divided aX8_divisors aX8_least m_sumUp m_sumDown m_ups m_downs r_m_ups r_m_downs Q hF m_pairOne_56 m_pairTwo_56 m_pairOne_56 rm_pairOne_56 rm_pairTwo_56 rm_pairOne_56 h
      replace h := h.2 b72
      refine q_ldc2 (w := (-4)) g 135 (-4) (by decide +kernel) wL_X8_135 dX8_pair_75 ?_
      refine q_goto g (18) 96 (by decide) dX8_pair_78 ?_
      refine q_lv (lv' := []) [] rfl ?_
      exact s_X8_pair_96 g hR hX8 aX8_ups aX8_downs m_many aX8_row m_isSpent m_found aX8_sumMany aX8_sumShares aX8_sumSet aX8_taken aX8_restUp aX8_restDown m_fewest m_wishes aX8_wished aX8_far aX8_queue m_divided aX8_divisors aX8_least m_sumUp m_sumDown m_ups m_downs r_m_ups r_m_downs Q hF m_pairOne_56 m_pairTwo_56 (-4) rm_pairOne_56 rm_pairTwo_56 (r64_lit _ (by decide)) h
    replace h := h.2 b33
    refine q_ldc2 (w := (-2)) g 212 (-2) (by decide +kernel) wL_X8_212 dX8_pair_36 ?_
    exact q_lret g hF ⟨(-2), m_pairOne, m_pairTwo, rfl, rfl, (r64_lit _ (by decide)), r_m_pairOne, r_m_pairTwo, h⟩ dX8_pair_39
  replace h := h.2 b18
  refine q_lv (lv' := []) [] rfl ?_
  exact s_X8_pair_21 g hR hX8 aX8_ups aX8_downs m_many aX8_row m_isSpent m_found aX8_sumMany aX8_sumShares aX8_sumSet aX8_taken aX8_restUp aX8_restDown m_fewest m_wishes aX8_wished aX8_far aX8_queue m_divided aX8_divisors aX8_least m_sumUp m_sumDown m_ups m_downs r_m_ups r_m_downs Q hF m_pairOne m_pairTwo r_m_pairOne r_m_pairTwo h
theorem dX8_pairs_0 : decode cX8_pairs 0 = .ok (.iload_n 1, 1) := by decide +kernel
theorem dX8_pairs_1 : decode cX8_pairs 1 = .ok (.invokestatic 68, 3) := by decide +kernel
theorem dX8_pairs_4 : decode cX8_pairs 4 = .ok (.ifCond .ne 5, 3) := by decide +kernel
theorem dX8_pairs_7 : decode cX8_pairs 7 = .ok (.iconst (-1), 1) := by decide +kernel
theorem dX8_pairs_8 : decode cX8_pairs 8 = .ok (.ireturn, 1) := by decide +kernel
theorem dX8_pairs_9 : decode cX8_pairs 9 = .ok (.aload_n 0, 1) := by decide +kernel
theorem dX8_pairs_10 : decode cX8_pairs 10 = .ok (.iload_n 1, 1) := by decide +kernel
theorem dX8_pairs_11 : decode cX8_pairs 11 = .ok (.sipush 5000, 3) := by decide +kernel
theorem dX8_pairs_14 : decode cX8_pairs 14 = .ok (.invokevirtual 205, 3) := by decide +kernel
theorem dX8_pairs_17 : decode cX8_pairs 17 = .ok (.ifCond .eq 26, 3) := by decide +kernel
theorem dX8_pairs_20 : decode cX8_pairs 20 = .ok (.aload_n 0, 1) := by decide +kernel
theorem dX8_pairs_21 : decode cX8_pairs 21 = .ok (.aload_n 0, 1) := by decide +kernel
theorem dX8_pairs_22 : decode cX8_pairs 22 = .ok (.getfield 7, 3) := by decide +kernel
theorem dX8_pairs_25 : decode cX8_pairs 25 = .ok (.iload_n 1, 1) := by decide +kernel
theorem dX8_pairs_26 : decode cX8_pairs 26 = .ok (.iaload, 1) := by decide +kernel
theorem dX8_pairs_27 : decode cX8_pairs 27 = .ok (.i2l, 1) := by decide +kernel
theorem dX8_pairs_28 : decode cX8_pairs 28 = .ok (.aload_n 0, 1) := by decide +kernel
theorem dX8_pairs_29 : decode cX8_pairs 29 = .ok (.getfield 13, 3) := by decide +kernel
theorem dX8_pairs_32 : decode cX8_pairs 32 = .ok (.iload_n 1, 1) := by decide +kernel
theorem dX8_pairs_33 : decode cX8_pairs 33 = .ok (.iaload, 1) := by decide +kernel
theorem dX8_pairs_34 : decode cX8_pairs 34 = .ok (.i2l, 1) := by decide +kernel
theorem dX8_pairs_35 : decode cX8_pairs 35 = .ok (.bipush (-4), 2) := by decide +kernel
theorem dX8_pairs_37 : decode cX8_pairs 37 = .ok (.invokevirtual 208, 3) := by decide +kernel
theorem dX8_pairs_40 : decode cX8_pairs 40 = .ok (.goto 5, 3) := by decide +kernel
theorem dX8_pairs_43 : decode cX8_pairs 43 = .ok (.bipush (-2), 2) := by decide +kernel
theorem dX8_pairs_45 : decode cX8_pairs 45 = .ok (.ireturn, 1) := by decide +kernel
abbrev po_X8_pairs (cI cJ : ClassId) (hX8 : Nat) (aX8_ups : Nat) (aX8_downs : Nat) (m_many : Int) (aX8_row : Nat) (m_isSpent : Int) (m_found : Int) (aX8_sumMany : Nat) (aX8_sumShares : Nat) (aX8_sumSet : Nat) (aX8_taken : Nat) (aX8_restUp : Nat) (aX8_restDown : Nat) (m_fewest : Int) (m_wishes : Int) (aX8_wished : Nat) (aX8_far : Nat) (aX8_queue : Nat) (m_divided : Int) (aX8_divisors : Nat) (aX8_least : Nat) (m_sumUp : Int) (m_sumDown : Int) (m_ups : Int → Int) (m_downs : Int → Int) (Q : Int → Int → Int → Prop) : Option Value → va_W → Prop := fun rv w1 => ∃ (r0 : Int) (m_pairOne : Int) (m_pairTwo : Int), rv = some (.int (i32 r0)) ∧ w1 = [(hX8, .inr (7, [.ref aX8_ups, .ref aX8_downs, .int (i32 m_many), .ref aX8_row, .int (i32 m_isSpent), .int (i32 m_found), .ref aX8_sumMany, .ref aX8_sumShares, .ref aX8_sumSet, .ref aX8_taken, .ref aX8_restUp, .ref aX8_restDown, .int (i32 m_fewest), .int (i32 m_wishes), .ref aX8_wished, .ref aX8_far, .ref aX8_queue, .int (i32 m_divided), .ref aX8_divisors, .ref aX8_least, .long (i64 m_pairOne), .long (i64 m_pairTwo), .long (i64 m_sumUp), .long (i64 m_sumDown)])), (aX8_ups, aI cI 8 m_ups), (aX8_downs, aI cI 8 m_downs)] ∧ r32 r0 ∧ r64 m_pairOne ∧ r64 m_pairTwo ∧ Q r0 m_pairOne m_pairTwo
def wp_X8_pairs_45 (Q : Int → Int → Int → Prop) (m_ups : Int → Int) (m_downs : Int → Int) (m_pairOne : Int) (m_pairTwo : Int) (k0 : Int) : Prop := Q k0 m_pairOne m_pairTwo
set_option maxHeartbeats 4000000 in
set_option maxRecDepth 100000 in
theorem s_X8_pairs_45 {X : Cx} (g : Gd X cX8_pairs RX8 (some .int) 2) (hR : X.R = rmL 3 0 0) (hX8 : Nat) (aX8_ups : Nat) (aX8_downs : Nat) (m_many : Int) (aX8_row : Nat) (m_isSpent : Int) (m_found : Int) (aX8_sumMany : Nat) (aX8_sumShares : Nat) (aX8_sumSet : Nat) (aX8_taken : Nat) (aX8_restUp : Nat) (aX8_restDown : Nat) (m_fewest : Int) (m_wishes : Int) (aX8_wished : Nat) (aX8_far : Nat) (aX8_queue : Nat) (m_divided : Int) (aX8_divisors : Nat) (aX8_least : Nat) (m_sumUp : Int) (m_sumDown : Int) (m_ups : Int → Int) (m_downs : Int → Int) (r_m_ups : rr32 m_ups) (r_m_downs : rr32 m_downs) (Q : Int → Int → Int → Prop) (hF : FQ X 0 0 (po_X8_pairs X.cI X.cJ hX8 aX8_ups aX8_downs m_many aX8_row m_isSpent m_found aX8_sumMany aX8_sumShares aX8_sumSet aX8_taken aX8_restUp aX8_restDown m_fewest m_wishes aX8_wished aX8_far aX8_queue m_divided aX8_divisors aX8_least m_sumUp m_sumDown m_ups m_downs Q)) : ∀ (m_pairOne : Int) (m_pairTwo : Int) (k0 : Int), r64 m_pairOne → r64 m_pairTwo → r32 k0 → wp_X8_pairs_45 Q m_ups m_downs m_pairOne m_pairTwo k0 → Wat X 0 0 45 [] [.int (i32 k0)] [(hX8, .inr (7, [.ref aX8_ups, .ref aX8_downs, .int (i32 m_many), .ref aX8_row, .int (i32 m_isSpent), .int (i32 m_found), .ref aX8_sumMany, .ref aX8_sumShares, .ref aX8_sumSet, .ref aX8_taken, .ref aX8_restUp, .ref aX8_restDown, .int (i32 m_fewest), .int (i32 m_wishes), .ref aX8_wished, .ref aX8_far, .ref aX8_queue, .int (i32 m_divided), .ref aX8_divisors, .ref aX8_least, .long (i64 m_pairOne), .long (i64 m_pairTwo), .long (i64 m_sumUp), .long (i64 m_sumDown)])), (aX8_ups, aI X.cI 8 m_ups), (aX8_downs, aI X.cI 8 m_downs)] := by
  intro m_pairOne m_pairTwo k0 r_m_pairOne r_m_pairTwo r_k0 h
  rw [wp_X8_pairs_45] at h
  exact q_iret g hF ⟨k0, m_pairOne, m_pairTwo, rfl, rfl, r_k0, r_m_pairOne, r_m_pairTwo, h⟩ dX8_pairs_45
def wp_X8_pairs (Q : Int → Int → Int → Prop) (m_ups : Int → Int) (m_downs : Int → Int) (m_pairOne : Int) (m_pairTwo : Int) (l1 : Int) : Prop := wp_X8_isRegister (fun (x1 : Int) => ((¬ x1 = 0 → wp_X8_isUpTo (fun (x14 : Int) => ((x14 = 0 → wp_X8_pairs_45 Q m_ups m_downs m_pairOne m_pairTwo (-2)) ∧
  (¬ (x14 = 0) → (0 ≤ l1 ∧ l1 < 8 ∧ 0 ≤ l1 ∧ l1 < 8 ∧ wp_X8_findPairs (fun (x37 : Int) (m_pairOne_37 : Int) (m_pairTwo_37 : Int) => wp_X8_pairs_45 Q m_ups m_downs m_pairOne_37 m_pairTwo_37 x37) m_pairOne m_pairTwo (m_ups l1) (m_downs l1) (-4))))) m_ups m_downs l1 5000) ∧
  (x1 = 0 → Q (-1) m_pairOne m_pairTwo))) l1
set_option maxHeartbeats 4000000 in
set_option maxRecDepth 100000 in
theorem c_X8_pairs (l : Launch) (D : va_G) (cI cJ : ClassId) (zt : Nat) (hX8 : Nat) (aX8_ups : Nat) (aX8_downs : Nat) (m_many : Int) (aX8_row : Nat) (m_isSpent : Int) (m_found : Int) (aX8_sumMany : Nat) (aX8_sumShares : Nat) (aX8_sumSet : Nat) (aX8_taken : Nat) (aX8_restUp : Nat) (aX8_restDown : Nat) (m_fewest : Int) (m_wishes : Int) (aX8_wished : Nat) (aX8_far : Nat) (aX8_queue : Nat) (m_divided : Int) (aX8_divisors : Nat) (aX8_least : Nat) (m_pairOne : Int) (m_pairTwo : Int) (m_sumUp : Int) (m_sumDown : Int) (m_ups : Int → Int) (m_downs : Int → Int) (l1 : Int) (Q : Int → Int → Int → Prop) (r_m_ups : rr32 m_ups) (r_m_downs : rr32 m_downs) (r_m_pairOne : r64 m_pairOne) (r_m_pairTwo : r64 m_pairTwo) (r_l1 : r32 l1) (h : wp_X8_pairs Q m_ups m_downs m_pairOne m_pairTwo l1) : Ct l D cI cJ zt yX8_pairs cX8_pairs 2 (some .int) 3 0 0 [.ref hX8, .int (i32 l1)] [(hX8, .inr (7, [.ref aX8_ups, .ref aX8_downs, .int (i32 m_many), .ref aX8_row, .int (i32 m_isSpent), .int (i32 m_found), .ref aX8_sumMany, .ref aX8_sumShares, .ref aX8_sumSet, .ref aX8_taken, .ref aX8_restUp, .ref aX8_restDown, .int (i32 m_fewest), .int (i32 m_wishes), .ref aX8_wished, .ref aX8_far, .ref aX8_queue, .int (i32 m_divided), .ref aX8_divisors, .ref aX8_least, .long (i64 m_pairOne), .long (i64 m_pairTwo), .long (i64 m_sumUp), .long (i64 m_sumDown)])), (aX8_ups, aI cI 8 m_ups), (aX8_downs, aI cI 8 m_downs)] (po_X8_pairs cI cJ hX8 aX8_ups aX8_downs m_many aX8_row m_isSpent m_found aX8_sumMany aX8_sumShares aX8_sumSet aX8_taken aX8_restUp aX8_restDown m_fewest m_wishes aX8_wished aX8_far aX8_queue m_divided aX8_divisors aX8_least m_sumUp m_sumDown m_ups m_downs Q) := by
  refine ct_of (by decide +kernel) (Nat.le_of_ble_eq_true rfl) (fun X hl hDD hcI hcJ hzt hR hF hnm g => ?_)
  subst hl; subst hDD; subst hcI; subst hcJ; subst hzt
  show Wat X 0 0 0 [(0, .ref hX8), (1, .int (i32 l1))] [] [(hX8, .inr (7, [.ref aX8_ups, .ref aX8_downs, .int (i32 m_many), .ref aX8_row, .int (i32 m_isSpent), .int (i32 m_found), .ref aX8_sumMany, .ref aX8_sumShares, .ref aX8_sumSet, .ref aX8_taken, .ref aX8_restUp, .ref aX8_restDown, .int (i32 m_fewest), .int (i32 m_wishes), .ref aX8_wished, .ref aX8_far, .ref aX8_queue, .int (i32 m_divided), .ref aX8_divisors, .ref aX8_least, .long (i64 m_pairOne), .long (i64 m_pairTwo), .long (i64 m_sumUp), .long (i64 m_sumDown)])), (aX8_ups, aI X.cI 8 m_ups), (aX8_downs, aI X.cI 8 m_downs)]
  replace g : Gd X cX8_pairs RX8 (some .int) 2 := g
  rw [wp_X8_pairs] at h
  refine q_iload_n g 1 1 rfl dX8_pairs_0 ?_
  refine q_callS (lev := 2) (mc := 0) (ms := 0) (As := [.int (i32 l1)]) g 68 (c_X8_isRegister X.l X.D X.cI X.cJ X.zt l1 _ r_l1 h) (wr := [(hX8, .inr (7, [.ref aX8_ups, .ref aX8_downs, .int (i32 m_many), .ref aX8_row, .int (i32 m_isSpent), .int (i32 m_found), .ref aX8_sumMany, .ref aX8_sumShares, .ref aX8_sumSet, .ref aX8_taken, .ref aX8_restUp, .ref aX8_restDown, .int (i32 m_fewest), .int (i32 m_wishes), .ref aX8_wished, .ref aX8_far, .ref aX8_queue, .int (i32 m_divided), .ref aX8_divisors, .ref aX8_least, .long (i64 m_pairOne), .long (i64 m_pairTwo), .long (i64 m_sumUp), .long (i64 m_sumDown)])), (aX8_ups, aI X.cI 8 m_ups), (aX8_downs, aI X.cI 8 m_downs)]) [] [0, 1, 2] rfl rfl rfl (by decide) (by decide) (by decide) wM_X8_68 wT_X8_isRegister wZ_X8 wC_X8_isRegister 1 rfl (by decide +kernel) (by rw [hR]; exact ⟨by show 2 + 1 ≤ 3; omega, by show 8 + (1 + 11) + 100 * 2 ≤ 100 * 3; omega⟩) (by rw [hR]; exact ⟨Nat.le_refl _, Nat.le_refl _⟩) (Nat.le_of_ble_eq_true rfl) rfl dX8_pairs_1 (fun rv w1 hq => ?_)
  obtain ⟨x1, rfl, rfl, rx1, h⟩ := hq
  show Wat X 0 0 4 [(0, .ref hX8), (1, .int (i32 l1))] [.int (i32 x1)] [(hX8, .inr (7, [.ref aX8_ups, .ref aX8_downs, .int (i32 m_many), .ref aX8_row, .int (i32 m_isSpent), .int (i32 m_found), .ref aX8_sumMany, .ref aX8_sumShares, .ref aX8_sumSet, .ref aX8_taken, .ref aX8_restUp, .ref aX8_restDown, .int (i32 m_fewest), .int (i32 m_wishes), .ref aX8_wished, .ref aX8_far, .ref aX8_queue, .int (i32 m_divided), .ref aX8_divisors, .ref aX8_least, .long (i64 m_pairOne), .long (i64 m_pairTwo), .long (i64 m_sumUp), .long (i64 m_sumDown)])), (aX8_ups, aI X.cI 8 m_ups), (aX8_downs, aI X.cI 8 m_downs)]
  refine q_if_ne g (5) 9 rx1 (by decide) dX8_pairs_4 (fun b4 => ?_) (fun b4 => ?_)
  · replace h := h.1 b4
    refine q_aload_n g 0 0 rfl dX8_pairs_9 ?_
    refine q_iload_n g 1 1 rfl dX8_pairs_10 ?_
    refine q_sipush g (5000) (by decide) (by decide) dX8_pairs_11 ?_
    refine q_callV (lev := 2) (mc := 0) (ms := 0) g 205 (c_X8_isUpTo X.l X.D X.cI X.cJ X.zt hX8 aX8_ups aX8_downs m_many aX8_row m_isSpent m_found aX8_sumMany aX8_sumShares aX8_sumSet aX8_taken aX8_restUp aX8_restDown m_fewest m_wishes aX8_wished aX8_far aX8_queue m_divided aX8_divisors aX8_least m_pairOne m_pairTwo m_sumUp m_sumDown m_ups m_downs l1 5000 _ r_m_ups r_m_downs r_l1 (r32_lit _ (by decide)) h) (wr := []) [0, 1, 2] [] rfl rfl rfl (by decide) (by decide) (by decide) (ci := 7) rfl rfl rfl wM_X8_205 wI_X8_isUpTo wS_X8_isUpTo wZ_X8 wC_X8_isUpTo 2 rfl (by decide +kernel) (by rw [hR]; exact ⟨by show 2 + 1 ≤ 3; omega, by show 8 + (3 + 11) + 100 * 2 ≤ 100 * 3; omega⟩) (by rw [hR]; exact ⟨Nat.le_refl _, Nat.le_refl _⟩) (Nat.le_of_ble_eq_true rfl) rfl dX8_pairs_14 (fun rv w1 hq => ?_)
    obtain ⟨x14, rfl, rfl, rx14, h⟩ := hq
    show Wat X 0 0 17 [(0, .ref hX8), (1, .int (i32 l1))] [.int (i32 x14)] [(hX8, .inr (7, [.ref aX8_ups, .ref aX8_downs, .int (i32 m_many), .ref aX8_row, .int (i32 m_isSpent), .int (i32 m_found), .ref aX8_sumMany, .ref aX8_sumShares, .ref aX8_sumSet, .ref aX8_taken, .ref aX8_restUp, .ref aX8_restDown, .int (i32 m_fewest), .int (i32 m_wishes), .ref aX8_wished, .ref aX8_far, .ref aX8_queue, .int (i32 m_divided), .ref aX8_divisors, .ref aX8_least, .long (i64 m_pairOne), .long (i64 m_pairTwo), .long (i64 m_sumUp), .long (i64 m_sumDown)])), (aX8_ups, aI X.cI 8 m_ups), (aX8_downs, aI X.cI 8 m_downs)]
    refine q_if_eq g (26) 43 rx14 (by decide) dX8_pairs_17 (fun b17 => ?_) (fun b17 => ?_)
    · replace h := h.1 b17
      refine q_bipush g (-2) (by decide) (by decide) dX8_pairs_43 ?_
      refine q_lv (lv' := []) [] rfl ?_
      exact s_X8_pairs_45 g hR hX8 aX8_ups aX8_downs m_many aX8_row m_isSpent m_found aX8_sumMany aX8_sumShares aX8_sumSet aX8_taken aX8_restUp aX8_restDown m_fewest m_wishes aX8_wished aX8_far aX8_queue m_divided aX8_divisors aX8_least m_sumUp m_sumDown m_ups m_downs r_m_ups r_m_downs Q hF m_pairOne m_pairTwo (-2) r_m_pairOne r_m_pairTwo (r32_lit _ (by decide)) h
    replace h := h.2 b17
    refine q_aload_n g 0 0 rfl dX8_pairs_20 ?_
    refine q_aload_n g 0 0 rfl dX8_pairs_21 ?_
    refine q_get (C := RX8) (T := TX8) (N := 24) g 7 inX8 0 0 rfl rfl (by decide) wF_X8_7 rfl dX8_pairs_22 ?_
    refine q_iload_n g 1 1 rfl dX8_pairs_25 ?_
    obtain ⟨c26, h⟩ := h
    obtain ⟨e26, h⟩ := h
    refine q_iald g 1 rfl c26 e26 (by decide) dX8_pairs_26 ?_
    refine q_i2l g (r_m_ups _) dX8_pairs_27 ?_
    refine q_aload_n g 0 0 rfl dX8_pairs_28 ?_
    refine q_get (C := RX8) (T := TX8) (N := 24) g 13 inX8 0 1 rfl rfl (by decide) wF_X8_13 rfl dX8_pairs_29 ?_
    refine q_iload_n g 1 1 rfl dX8_pairs_32 ?_
    obtain ⟨c33, h⟩ := h
    obtain ⟨e33, h⟩ := h
    refine q_iald g 2 rfl c33 e33 (by decide) dX8_pairs_33 ?_
    refine q_i2l g (r_m_downs _) dX8_pairs_34 ?_
    refine q_bipush g (-4) (by decide) (by decide) dX8_pairs_35 ?_
    refine q_callV (lev := 1) (mc := 0) (ms := 0) g 208 (c_X8_findPairs X.l X.D X.cI X.cJ X.zt hX8 aX8_ups aX8_downs m_many aX8_row m_isSpent m_found aX8_sumMany aX8_sumShares aX8_sumSet aX8_taken aX8_restUp aX8_restDown m_fewest m_wishes aX8_wished aX8_far aX8_queue m_divided aX8_divisors aX8_least m_pairOne m_pairTwo m_sumUp m_sumDown (m_ups l1) (m_downs l1) (-4) _ r_m_pairOne r_m_pairTwo (r32_64 (r_m_ups _)) (r32_64 (r_m_downs _)) (r32_lit _ (by decide)) h) (wr := [(aX8_ups, aI X.cI 8 m_ups), (aX8_downs, aI X.cI 8 m_downs)]) [0] [1, 2] rfl rfl rfl (by decide) (by decide) (by decide) (ci := 7) rfl rfl rfl wM_X8_208 wI_X8_findPairs wS_X8_findPairs wZ_X8 wC_X8_findPairs 3 rfl (by decide +kernel) (by rw [hR]; exact ⟨by show 1 + 1 ≤ 3; omega, by show 8 + (10 + 11) + 100 * 1 ≤ 100 * 3; omega⟩) (by rw [hR]; exact ⟨Nat.le_refl _, Nat.le_refl _⟩) (Nat.le_of_ble_eq_true rfl) rfl dX8_pairs_37 (fun rv w1 hq => ?_)
    obtain ⟨x37, m_pairOne_37, m_pairTwo_37, rfl, rfl, rx37, rm_pairOne_37, rm_pairTwo_37, h⟩ := hq
    refine q_ws (ws' := [(hX8, .inr (7, [.ref aX8_ups, .ref aX8_downs, .int (i32 m_many), .ref aX8_row, .int (i32 m_isSpent), .int (i32 m_found), .ref aX8_sumMany, .ref aX8_sumShares, .ref aX8_sumSet, .ref aX8_taken, .ref aX8_restUp, .ref aX8_restDown, .int (i32 m_fewest), .int (i32 m_wishes), .ref aX8_wished, .ref aX8_far, .ref aX8_queue, .int (i32 m_divided), .ref aX8_divisors, .ref aX8_least, .long (i64 m_pairOne_37), .long (i64 m_pairTwo_37), .long (i64 m_sumUp), .long (i64 m_sumDown)])), (aX8_ups, aI X.cI 8 m_ups), (aX8_downs, aI X.cI 8 m_downs)]) [2, 0, 1] (by decide) rfl rfl ?_
    show Wat X 0 0 40 [(0, .ref hX8), (1, .int (i32 l1))] [.int (i32 x37)] [(hX8, .inr (7, [.ref aX8_ups, .ref aX8_downs, .int (i32 m_many), .ref aX8_row, .int (i32 m_isSpent), .int (i32 m_found), .ref aX8_sumMany, .ref aX8_sumShares, .ref aX8_sumSet, .ref aX8_taken, .ref aX8_restUp, .ref aX8_restDown, .int (i32 m_fewest), .int (i32 m_wishes), .ref aX8_wished, .ref aX8_far, .ref aX8_queue, .int (i32 m_divided), .ref aX8_divisors, .ref aX8_least, .long (i64 m_pairOne_37), .long (i64 m_pairTwo_37), .long (i64 m_sumUp), .long (i64 m_sumDown)])), (aX8_ups, aI X.cI 8 m_ups), (aX8_downs, aI X.cI 8 m_downs)]
    refine q_goto g (5) 45 (by decide) dX8_pairs_40 ?_
    refine q_lv (lv' := []) [] rfl ?_
    exact s_X8_pairs_45 g hR hX8 aX8_ups aX8_downs m_many aX8_row m_isSpent m_found aX8_sumMany aX8_sumShares aX8_sumSet aX8_taken aX8_restUp aX8_restDown m_fewest m_wishes aX8_wished aX8_far aX8_queue m_divided aX8_divisors aX8_least m_sumUp m_sumDown m_ups m_downs r_m_ups r_m_downs Q hF m_pairOne_37 m_pairTwo_37 x37 rm_pairOne_37 rm_pairTwo_37 rx37 h
  replace h := h.2 b4
  refine q_iconst g (-1) dX8_pairs_7 ?_
  exact q_iret g hF ⟨(-1), m_pairOne, m_pairTwo, rfl, rfl, (r32_lit _ (by decide)), r_m_pairOne, r_m_pairTwo, h⟩ dX8_pairs_8
theorem dX8_reckon_0 : decode cX8_reckon 0 = .ok (.iload_n 1, 1) := by decide +kernel
theorem dX8_reckon_1 : decode cX8_reckon 1 = .ok (.invokestatic 68, 3) := by decide +kernel
theorem dX8_reckon_4 : decode cX8_reckon 4 = .ok (.ifCond .eq 30, 3) := by decide +kernel
theorem dX8_reckon_7 : decode cX8_reckon 7 = .ok (.iload_n 2, 1) := by decide +kernel
theorem dX8_reckon_8 : decode cX8_reckon 8 = .ok (.i2l, 1) := by decide +kernel
theorem dX8_reckon_9 : decode cX8_reckon 9 = .ok (.lconst 0, 1) := by decide +kernel
theorem dX8_reckon_10 : decode cX8_reckon 10 = .ok (.ldc2_w 78, 3) := by decide +kernel
theorem dX8_reckon_13 : decode cX8_reckon 13 = .ok (.invokestatic 60, 3) := by decide +kernel
theorem dX8_reckon_16 : decode cX8_reckon 16 = .ok (.ifCond .eq 18, 3) := by decide +kernel
theorem dX8_reckon_19 : decode cX8_reckon 19 = .ok (.iload_n 3, 1) := by decide +kernel
theorem dX8_reckon_20 : decode cX8_reckon 20 = .ok (.invokestatic 68, 3) := by decide +kernel
theorem dX8_reckon_23 : decode cX8_reckon 23 = .ok (.ifCond .eq 11, 3) := by decide +kernel
theorem dX8_reckon_26 : decode cX8_reckon 26 = .ok (.iload 4, 2) := by decide +kernel
theorem dX8_reckon_28 : decode cX8_reckon 28 = .ok (.invokestatic 68, 3) := by decide +kernel
theorem dX8_reckon_31 : decode cX8_reckon 31 = .ok (.ifCond .ne 5, 3) := by decide +kernel
theorem dX8_reckon_34 : decode cX8_reckon 34 = .ok (.iconst (-1), 1) := by decide +kernel
theorem dX8_reckon_35 : decode cX8_reckon 35 = .ok (.ireturn, 1) := by decide +kernel
theorem dX8_reckon_36 : decode cX8_reckon 36 = .ok (.aload_n 0, 1) := by decide +kernel
theorem dX8_reckon_37 : decode cX8_reckon 37 = .ok (.getfield 7, 3) := by decide +kernel
theorem dX8_reckon_40 : decode cX8_reckon 40 = .ok (.iload_n 3, 1) := by decide +kernel
theorem dX8_reckon_41 : decode cX8_reckon 41 = .ok (.iaload, 1) := by decide +kernel
theorem dX8_reckon_42 : decode cX8_reckon 42 = .ok (.i2l, 1) := by decide +kernel
theorem dX8_reckon_43 : decode cX8_reckon 43 = .ok (.lstore 5, 2) := by decide +kernel
theorem dX8_reckon_45 : decode cX8_reckon 45 = .ok (.aload_n 0, 1) := by decide +kernel
theorem dX8_reckon_46 : decode cX8_reckon 46 = .ok (.getfield 13, 3) := by decide +kernel
theorem dX8_reckon_49 : decode cX8_reckon 49 = .ok (.iload_n 3, 1) := by decide +kernel
theorem dX8_reckon_50 : decode cX8_reckon 50 = .ok (.iaload, 1) := by decide +kernel
theorem dX8_reckon_51 : decode cX8_reckon 51 = .ok (.i2l, 1) := by decide +kernel
theorem dX8_reckon_52 : decode cX8_reckon 52 = .ok (.lstore 7, 2) := by decide +kernel
theorem dX8_reckon_54 : decode cX8_reckon 54 = .ok (.aload_n 0, 1) := by decide +kernel
theorem dX8_reckon_55 : decode cX8_reckon 55 = .ok (.getfield 7, 3) := by decide +kernel
theorem dX8_reckon_58 : decode cX8_reckon 58 = .ok (.iload 4, 2) := by decide +kernel
theorem dX8_reckon_60 : decode cX8_reckon 60 = .ok (.iaload, 1) := by decide +kernel
theorem dX8_reckon_61 : decode cX8_reckon 61 = .ok (.i2l, 1) := by decide +kernel
theorem dX8_reckon_62 : decode cX8_reckon 62 = .ok (.lstore 9, 2) := by decide +kernel
theorem dX8_reckon_64 : decode cX8_reckon 64 = .ok (.aload_n 0, 1) := by decide +kernel
theorem dX8_reckon_65 : decode cX8_reckon 65 = .ok (.getfield 13, 3) := by decide +kernel
theorem dX8_reckon_68 : decode cX8_reckon 68 = .ok (.iload 4, 2) := by decide +kernel
theorem dX8_reckon_70 : decode cX8_reckon 70 = .ok (.iaload, 1) := by decide +kernel
theorem dX8_reckon_71 : decode cX8_reckon 71 = .ok (.i2l, 1) := by decide +kernel
theorem dX8_reckon_72 : decode cX8_reckon 72 = .ok (.lstore 11, 2) := by decide +kernel
theorem dX8_reckon_74 : decode cX8_reckon 74 = .ok (.iload_n 2, 1) := by decide +kernel
theorem dX8_reckon_75 : decode cX8_reckon 75 = .ok (.ifCond .ne 17, 3) := by decide +kernel
theorem dX8_reckon_78 : decode cX8_reckon 78 = .ok (.lload 5, 2) := by decide +kernel
theorem dX8_reckon_80 : decode cX8_reckon 80 = .ok (.lload 11, 2) := by decide +kernel
theorem dX8_reckon_82 : decode cX8_reckon 82 = .ok (.lmul, 1) := by decide +kernel
theorem dX8_reckon_83 : decode cX8_reckon 83 = .ok (.lload 9, 2) := by decide +kernel
theorem dX8_reckon_85 : decode cX8_reckon 85 = .ok (.lload 7, 2) := by decide +kernel
theorem dX8_reckon_87 : decode cX8_reckon 87 = .ok (.lmul, 1) := by decide +kernel
theorem dX8_reckon_88 : decode cX8_reckon 88 = .ok (.ladd, 1) := by decide +kernel
theorem dX8_reckon_89 : decode cX8_reckon 89 = .ok (.goto 40, 3) := by decide +kernel
theorem dX8_reckon_92 : decode cX8_reckon 92 = .ok (.iload_n 2, 1) := by decide +kernel
theorem dX8_reckon_93 : decode cX8_reckon 93 = .ok (.iconst 1, 1) := by decide +kernel
theorem dX8_reckon_94 : decode cX8_reckon 94 = .ok (.if_icmp .ne 17, 3) := by decide +kernel
theorem dX8_reckon_97 : decode cX8_reckon 97 = .ok (.lload 5, 2) := by decide +kernel
theorem dX8_reckon_99 : decode cX8_reckon 99 = .ok (.lload 11, 2) := by decide +kernel
theorem dX8_reckon_101 : decode cX8_reckon 101 = .ok (.lmul, 1) := by decide +kernel
theorem dX8_reckon_102 : decode cX8_reckon 102 = .ok (.lload 9, 2) := by decide +kernel
theorem dX8_reckon_104 : decode cX8_reckon 104 = .ok (.lload 7, 2) := by decide +kernel
theorem dX8_reckon_106 : decode cX8_reckon 106 = .ok (.lmul, 1) := by decide +kernel
theorem dX8_reckon_107 : decode cX8_reckon 107 = .ok (.lsub, 1) := by decide +kernel
theorem dX8_reckon_108 : decode cX8_reckon 108 = .ok (.goto 21, 3) := by decide +kernel
theorem dX8_reckon_111 : decode cX8_reckon 111 = .ok (.iload_n 2, 1) := by decide +kernel
theorem dX8_reckon_112 : decode cX8_reckon 112 = .ok (.iconst 2, 1) := by decide +kernel
theorem dX8_reckon_113 : decode cX8_reckon 113 = .ok (.if_icmp .ne 11, 3) := by decide +kernel
theorem dX8_reckon_116 : decode cX8_reckon 116 = .ok (.lload 5, 2) := by decide +kernel
theorem dX8_reckon_118 : decode cX8_reckon 118 = .ok (.lload 9, 2) := by decide +kernel
theorem dX8_reckon_120 : decode cX8_reckon 120 = .ok (.lmul, 1) := by decide +kernel
theorem dX8_reckon_121 : decode cX8_reckon 121 = .ok (.goto 8, 3) := by decide +kernel
theorem dX8_reckon_124 : decode cX8_reckon 124 = .ok (.lload 5, 2) := by decide +kernel
theorem dX8_reckon_126 : decode cX8_reckon 126 = .ok (.lload 11, 2) := by decide +kernel
theorem dX8_reckon_128 : decode cX8_reckon 128 = .ok (.lmul, 1) := by decide +kernel
theorem dX8_reckon_129 : decode cX8_reckon 129 = .ok (.lstore 13, 2) := by decide +kernel
theorem dX8_reckon_131 : decode cX8_reckon 131 = .ok (.iload_n 2, 1) := by decide +kernel
theorem dX8_reckon_132 : decode cX8_reckon 132 = .ok (.iconst 3, 1) := by decide +kernel
theorem dX8_reckon_133 : decode cX8_reckon 133 = .ok (.if_icmp .ne 11, 3) := by decide +kernel
theorem dX8_reckon_136 : decode cX8_reckon 136 = .ok (.lload 7, 2) := by decide +kernel
theorem dX8_reckon_138 : decode cX8_reckon 138 = .ok (.lload 9, 2) := by decide +kernel
theorem dX8_reckon_140 : decode cX8_reckon 140 = .ok (.lmul, 1) := by decide +kernel
theorem dX8_reckon_141 : decode cX8_reckon 141 = .ok (.goto 8, 3) := by decide +kernel
theorem dX8_reckon_144 : decode cX8_reckon 144 = .ok (.lload 7, 2) := by decide +kernel
theorem dX8_reckon_146 : decode cX8_reckon 146 = .ok (.lload 11, 2) := by decide +kernel
theorem dX8_reckon_148 : decode cX8_reckon 148 = .ok (.lmul, 1) := by decide +kernel
theorem dX8_reckon_149 : decode cX8_reckon 149 = .ok (.lstore 15, 2) := by decide +kernel
theorem dX8_reckon_151 : decode cX8_reckon 151 = .ok (.lload 13, 2) := by decide +kernel
theorem dX8_reckon_153 : decode cX8_reckon 153 = .ok (.lconst 0, 1) := by decide +kernel
theorem dX8_reckon_154 : decode cX8_reckon 154 = .ok (.lcmp, 1) := by decide +kernel
theorem dX8_reckon_155 : decode cX8_reckon 155 = .ok (.ifCond .lt 10, 3) := by decide +kernel
theorem dX8_reckon_158 : decode cX8_reckon 158 = .ok (.lload 15, 2) := by decide +kernel
theorem dX8_reckon_160 : decode cX8_reckon 160 = .ok (.lconst 0, 1) := by decide +kernel
theorem dX8_reckon_161 : decode cX8_reckon 161 = .ok (.lcmp, 1) := by decide +kernel
theorem dX8_reckon_162 : decode cX8_reckon 162 = .ok (.ifCond .ne 6, 3) := by decide +kernel
theorem dX8_reckon_165 : decode cX8_reckon 165 = .ok (.bipush (-2), 2) := by decide +kernel
theorem dX8_reckon_167 : decode cX8_reckon 167 = .ok (.ireturn, 1) := by decide +kernel
theorem dX8_reckon_168 : decode cX8_reckon 168 = .ok (.lload 13, 2) := by decide +kernel
theorem dX8_reckon_170 : decode cX8_reckon 170 = .ok (.lload 15, 2) := by decide +kernel
theorem dX8_reckon_172 : decode cX8_reckon 172 = .ok (.invokestatic 64, 3) := by decide +kernel
theorem dX8_reckon_175 : decode cX8_reckon 175 = .ok (.lstore 17, 2) := by decide +kernel
theorem dX8_reckon_177 : decode cX8_reckon 177 = .ok (.lload 13, 2) := by decide +kernel
theorem dX8_reckon_179 : decode cX8_reckon 179 = .ok (.lload 17, 2) := by decide +kernel
theorem dX8_reckon_181 : decode cX8_reckon 181 = .ok (.ldiv, 1) := by decide +kernel
theorem dX8_reckon_182 : decode cX8_reckon 182 = .ok (.ldc2_w 72, 3) := by decide +kernel
theorem dX8_reckon_185 : decode cX8_reckon 185 = .ok (.lcmp, 1) := by decide +kernel
theorem dX8_reckon_186 : decode cX8_reckon 186 = .ok (.ifCond .gt 15, 3) := by decide +kernel
theorem dX8_reckon_189 : decode cX8_reckon 189 = .ok (.lload 15, 2) := by decide +kernel
theorem dX8_reckon_191 : decode cX8_reckon 191 = .ok (.lload 17, 2) := by decide +kernel
theorem dX8_reckon_193 : decode cX8_reckon 193 = .ok (.ldiv, 1) := by decide +kernel
theorem dX8_reckon_194 : decode cX8_reckon 194 = .ok (.ldc2_w 72, 3) := by decide +kernel
theorem dX8_reckon_197 : decode cX8_reckon 197 = .ok (.lcmp, 1) := by decide +kernel
theorem dX8_reckon_198 : decode cX8_reckon 198 = .ok (.ifCond .le 6, 3) := by decide +kernel
theorem dX8_reckon_201 : decode cX8_reckon 201 = .ok (.bipush (-5), 2) := by decide +kernel
theorem dX8_reckon_203 : decode cX8_reckon 203 = .ok (.ireturn, 1) := by decide +kernel
theorem dX8_reckon_204 : decode cX8_reckon 204 = .ok (.aload_n 0, 1) := by decide +kernel
theorem dX8_reckon_205 : decode cX8_reckon 205 = .ok (.iload_n 1, 1) := by decide +kernel
theorem dX8_reckon_206 : decode cX8_reckon 206 = .ok (.lload 13, 2) := by decide +kernel
theorem dX8_reckon_208 : decode cX8_reckon 208 = .ok (.lload 15, 2) := by decide +kernel
theorem dX8_reckon_210 : decode cX8_reckon 210 = .ok (.invokevirtual 74, 3) := by decide +kernel
theorem dX8_reckon_213 : decode cX8_reckon 213 = .ok (.iconst 0, 1) := by decide +kernel
theorem dX8_reckon_214 : decode cX8_reckon 214 = .ok (.ireturn, 1) := by decide +kernel
abbrev po_X8_reckon (cI cJ : ClassId) (hX8 : Nat) (aX8_ups : Nat) (aX8_downs : Nat) (m_many : Int) (aX8_row : Nat) (m_isSpent : Int) (m_found : Int) (aX8_sumMany : Nat) (aX8_sumShares : Nat) (aX8_sumSet : Nat) (aX8_taken : Nat) (aX8_restUp : Nat) (aX8_restDown : Nat) (m_fewest : Int) (m_wishes : Int) (aX8_wished : Nat) (aX8_far : Nat) (aX8_queue : Nat) (m_divided : Int) (aX8_divisors : Nat) (aX8_least : Nat) (m_pairOne : Int) (m_pairTwo : Int) (m_sumUp : Int) (m_sumDown : Int) (Q : Int → (Int → Int) → (Int → Int) → Prop) : Option Value → va_W → Prop := fun rv w1 => ∃ (r0 : Int) (m_ups : Int → Int) (m_downs : Int → Int), rv = some (.int (i32 r0)) ∧ w1 = [(hX8, .inr (7, [.ref aX8_ups, .ref aX8_downs, .int (i32 m_many), .ref aX8_row, .int (i32 m_isSpent), .int (i32 m_found), .ref aX8_sumMany, .ref aX8_sumShares, .ref aX8_sumSet, .ref aX8_taken, .ref aX8_restUp, .ref aX8_restDown, .int (i32 m_fewest), .int (i32 m_wishes), .ref aX8_wished, .ref aX8_far, .ref aX8_queue, .int (i32 m_divided), .ref aX8_divisors, .ref aX8_least, .long (i64 m_pairOne), .long (i64 m_pairTwo), .long (i64 m_sumUp), .long (i64 m_sumDown)])), (aX8_ups, aI cI 8 m_ups), (aX8_downs, aI cI 8 m_downs)] ∧ r32 r0 ∧ rr32 m_ups ∧ rr32 m_downs ∧ Q r0 m_ups m_downs
def wp_X8_reckon_34 (Q : Int → (Int → Int) → (Int → Int) → Prop) (m_ups : Int → Int) (m_downs : Int → Int) : Prop := Q (-1) m_ups m_downs
set_option maxHeartbeats 4000000 in
set_option maxRecDepth 100000 in
theorem s_X8_reckon_34 {X : Cx} (g : Gd X cX8_reckon RX8 (some .int) 19) (hR : X.R = rmL 3 0 0) (hX8 : Nat) (aX8_ups : Nat) (aX8_downs : Nat) (m_many : Int) (aX8_row : Nat) (m_isSpent : Int) (m_found : Int) (aX8_sumMany : Nat) (aX8_sumShares : Nat) (aX8_sumSet : Nat) (aX8_taken : Nat) (aX8_restUp : Nat) (aX8_restDown : Nat) (m_fewest : Int) (m_wishes : Int) (aX8_wished : Nat) (aX8_far : Nat) (aX8_queue : Nat) (m_divided : Int) (aX8_divisors : Nat) (aX8_least : Nat) (m_pairOne : Int) (m_pairTwo : Int) (m_sumUp : Int) (m_sumDown : Int) (Q : Int → (Int → Int) → (Int → Int) → Prop) (hF : FQ X 0 0 (po_X8_reckon X.cI X.cJ hX8 aX8_ups aX8_downs m_many aX8_row m_isSpent m_found aX8_sumMany aX8_sumShares aX8_sumSet aX8_taken aX8_restUp aX8_restDown m_fewest m_wishes aX8_wished aX8_far aX8_queue m_divided aX8_divisors aX8_least m_pairOne m_pairTwo m_sumUp m_sumDown Q)) : ∀ (m_ups : Int → Int) (m_downs : Int → Int), rr32 m_ups → rr32 m_downs → wp_X8_reckon_34 Q m_ups m_downs → Wat X 0 0 34 [] [] [(hX8, .inr (7, [.ref aX8_ups, .ref aX8_downs, .int (i32 m_many), .ref aX8_row, .int (i32 m_isSpent), .int (i32 m_found), .ref aX8_sumMany, .ref aX8_sumShares, .ref aX8_sumSet, .ref aX8_taken, .ref aX8_restUp, .ref aX8_restDown, .int (i32 m_fewest), .int (i32 m_wishes), .ref aX8_wished, .ref aX8_far, .ref aX8_queue, .int (i32 m_divided), .ref aX8_divisors, .ref aX8_least, .long (i64 m_pairOne), .long (i64 m_pairTwo), .long (i64 m_sumUp), .long (i64 m_sumDown)])), (aX8_ups, aI X.cI 8 m_ups), (aX8_downs, aI X.cI 8 m_downs)] := by
  intro m_ups m_downs r_m_ups r_m_downs h
  rw [wp_X8_reckon_34] at h
  refine q_iconst g (-1) dX8_reckon_34 ?_
  exact q_iret g hF ⟨(-1), m_ups, m_downs, rfl, rfl, (r32_lit _ (by decide)), r_m_ups, r_m_downs, h⟩ dX8_reckon_35
def wp_X8_reckon_165 (Q : Int → (Int → Int) → (Int → Int) → Prop) (m_ups : Int → Int) (m_downs : Int → Int) : Prop := Q (-2) m_ups m_downs
set_option maxHeartbeats 4000000 in
set_option maxRecDepth 100000 in
theorem s_X8_reckon_165 {X : Cx} (g : Gd X cX8_reckon RX8 (some .int) 19) (hR : X.R = rmL 3 0 0) (hX8 : Nat) (aX8_ups : Nat) (aX8_downs : Nat) (m_many : Int) (aX8_row : Nat) (m_isSpent : Int) (m_found : Int) (aX8_sumMany : Nat) (aX8_sumShares : Nat) (aX8_sumSet : Nat) (aX8_taken : Nat) (aX8_restUp : Nat) (aX8_restDown : Nat) (m_fewest : Int) (m_wishes : Int) (aX8_wished : Nat) (aX8_far : Nat) (aX8_queue : Nat) (m_divided : Int) (aX8_divisors : Nat) (aX8_least : Nat) (m_pairOne : Int) (m_pairTwo : Int) (m_sumUp : Int) (m_sumDown : Int) (Q : Int → (Int → Int) → (Int → Int) → Prop) (hF : FQ X 0 0 (po_X8_reckon X.cI X.cJ hX8 aX8_ups aX8_downs m_many aX8_row m_isSpent m_found aX8_sumMany aX8_sumShares aX8_sumSet aX8_taken aX8_restUp aX8_restDown m_fewest m_wishes aX8_wished aX8_far aX8_queue m_divided aX8_divisors aX8_least m_pairOne m_pairTwo m_sumUp m_sumDown Q)) : ∀ (m_ups : Int → Int) (m_downs : Int → Int), rr32 m_ups → rr32 m_downs → wp_X8_reckon_165 Q m_ups m_downs → Wat X 0 0 165 [] [] [(hX8, .inr (7, [.ref aX8_ups, .ref aX8_downs, .int (i32 m_many), .ref aX8_row, .int (i32 m_isSpent), .int (i32 m_found), .ref aX8_sumMany, .ref aX8_sumShares, .ref aX8_sumSet, .ref aX8_taken, .ref aX8_restUp, .ref aX8_restDown, .int (i32 m_fewest), .int (i32 m_wishes), .ref aX8_wished, .ref aX8_far, .ref aX8_queue, .int (i32 m_divided), .ref aX8_divisors, .ref aX8_least, .long (i64 m_pairOne), .long (i64 m_pairTwo), .long (i64 m_sumUp), .long (i64 m_sumDown)])), (aX8_ups, aI X.cI 8 m_ups), (aX8_downs, aI X.cI 8 m_downs)] := by
  intro m_ups m_downs r_m_ups r_m_downs h
  rw [wp_X8_reckon_165] at h
  refine q_bipush g (-2) (by decide) (by decide) dX8_reckon_165 ?_
  exact q_iret g hF ⟨(-2), m_ups, m_downs, rfl, rfl, (r32_lit _ (by decide)), r_m_ups, r_m_downs, h⟩ dX8_reckon_167
def wp_X8_reckon_201 (Q : Int → (Int → Int) → (Int → Int) → Prop) (m_ups : Int → Int) (m_downs : Int → Int) : Prop := Q (-5) m_ups m_downs
set_option maxHeartbeats 4000000 in
set_option maxRecDepth 100000 in
theorem s_X8_reckon_201 {X : Cx} (g : Gd X cX8_reckon RX8 (some .int) 19) (hR : X.R = rmL 3 0 0) (hX8 : Nat) (aX8_ups : Nat) (aX8_downs : Nat) (m_many : Int) (aX8_row : Nat) (m_isSpent : Int) (m_found : Int) (aX8_sumMany : Nat) (aX8_sumShares : Nat) (aX8_sumSet : Nat) (aX8_taken : Nat) (aX8_restUp : Nat) (aX8_restDown : Nat) (m_fewest : Int) (m_wishes : Int) (aX8_wished : Nat) (aX8_far : Nat) (aX8_queue : Nat) (m_divided : Int) (aX8_divisors : Nat) (aX8_least : Nat) (m_pairOne : Int) (m_pairTwo : Int) (m_sumUp : Int) (m_sumDown : Int) (Q : Int → (Int → Int) → (Int → Int) → Prop) (hF : FQ X 0 0 (po_X8_reckon X.cI X.cJ hX8 aX8_ups aX8_downs m_many aX8_row m_isSpent m_found aX8_sumMany aX8_sumShares aX8_sumSet aX8_taken aX8_restUp aX8_restDown m_fewest m_wishes aX8_wished aX8_far aX8_queue m_divided aX8_divisors aX8_least m_pairOne m_pairTwo m_sumUp m_sumDown Q)) : ∀ (m_ups : Int → Int) (m_downs : Int → Int), rr32 m_ups → rr32 m_downs → wp_X8_reckon_201 Q m_ups m_downs → Wat X 0 0 201 [] [] [(hX8, .inr (7, [.ref aX8_ups, .ref aX8_downs, .int (i32 m_many), .ref aX8_row, .int (i32 m_isSpent), .int (i32 m_found), .ref aX8_sumMany, .ref aX8_sumShares, .ref aX8_sumSet, .ref aX8_taken, .ref aX8_restUp, .ref aX8_restDown, .int (i32 m_fewest), .int (i32 m_wishes), .ref aX8_wished, .ref aX8_far, .ref aX8_queue, .int (i32 m_divided), .ref aX8_divisors, .ref aX8_least, .long (i64 m_pairOne), .long (i64 m_pairTwo), .long (i64 m_sumUp), .long (i64 m_sumDown)])), (aX8_ups, aI X.cI 8 m_ups), (aX8_downs, aI X.cI 8 m_downs)] := by
  intro m_ups m_downs r_m_ups r_m_downs h
  rw [wp_X8_reckon_201] at h
  refine q_bipush g (-5) (by decide) (by decide) dX8_reckon_201 ?_
  exact q_iret g hF ⟨(-5), m_ups, m_downs, rfl, rfl, (r32_lit _ (by decide)), r_m_ups, r_m_downs, h⟩ dX8_reckon_203
def wp_X8_reckon_149 (Q : Int → (Int → Int) → (Int → Int) → Prop) (m_ups : Int → Int) (m_downs : Int → Int) (l1 : Int) (l13 : Int) (k0 : Int) : Prop := ((l13 < 0 → wp_X8_reckon_165 Q m_ups m_downs) ∧
  (¬ (l13 < 0) → ((¬ k0 = 0 → wp_X8_gcd (fun (x172 : Int) => (0 < x172 ∧ ((1000000 < (l13.tdiv x172) → wp_X8_reckon_201 Q m_ups m_downs) ∧
  (¬ (1000000 < (l13.tdiv x172)) → (0 < x172 ∧ (((k0.tdiv x172) ≤ 1000000 → wp_X8_keep (fun (m_ups_210 : Int → Int) (m_downs_210 : Int → Int) => Q 0 m_ups_210 m_downs_210) m_ups m_downs l1 l13 k0) ∧
  (¬ ((k0.tdiv x172) ≤ 1000000) → wp_X8_reckon_201 Q m_ups m_downs))))))) l13 k0) ∧
  (k0 = 0 → wp_X8_reckon_165 Q m_ups m_downs))))
set_option maxHeartbeats 4000000 in
set_option maxRecDepth 100000 in
theorem s_X8_reckon_149 {X : Cx} (g : Gd X cX8_reckon RX8 (some .int) 19) (hR : X.R = rmL 3 0 0) (hX8 : Nat) (aX8_ups : Nat) (aX8_downs : Nat) (m_many : Int) (aX8_row : Nat) (m_isSpent : Int) (m_found : Int) (aX8_sumMany : Nat) (aX8_sumShares : Nat) (aX8_sumSet : Nat) (aX8_taken : Nat) (aX8_restUp : Nat) (aX8_restDown : Nat) (m_fewest : Int) (m_wishes : Int) (aX8_wished : Nat) (aX8_far : Nat) (aX8_queue : Nat) (m_divided : Int) (aX8_divisors : Nat) (aX8_least : Nat) (m_pairOne : Int) (m_pairTwo : Int) (m_sumUp : Int) (m_sumDown : Int) (Q : Int → (Int → Int) → (Int → Int) → Prop) (hF : FQ X 0 0 (po_X8_reckon X.cI X.cJ hX8 aX8_ups aX8_downs m_many aX8_row m_isSpent m_found aX8_sumMany aX8_sumShares aX8_sumSet aX8_taken aX8_restUp aX8_restDown m_fewest m_wishes aX8_wished aX8_far aX8_queue m_divided aX8_divisors aX8_least m_pairOne m_pairTwo m_sumUp m_sumDown Q)) : ∀ (m_ups : Int → Int) (m_downs : Int → Int) (l1 : Int) (l13 : Int) (k0 : Int), rr32 m_ups → rr32 m_downs → r32 l1 → r64 l13 → r64 k0 → wp_X8_reckon_149 Q m_ups m_downs l1 l13 k0 → Wat X 0 0 149 [(0, .ref hX8), (1, .int (i32 l1)), (13, .long (i64 l13))] [.long (i64 k0)] [(hX8, .inr (7, [.ref aX8_ups, .ref aX8_downs, .int (i32 m_many), .ref aX8_row, .int (i32 m_isSpent), .int (i32 m_found), .ref aX8_sumMany, .ref aX8_sumShares, .ref aX8_sumSet, .ref aX8_taken, .ref aX8_restUp, .ref aX8_restDown, .int (i32 m_fewest), .int (i32 m_wishes), .ref aX8_wished, .ref aX8_far, .ref aX8_queue, .int (i32 m_divided), .ref aX8_divisors, .ref aX8_least, .long (i64 m_pairOne), .long (i64 m_pairTwo), .long (i64 m_sumUp), .long (i64 m_sumDown)])), (aX8_ups, aI X.cI 8 m_ups), (aX8_downs, aI X.cI 8 m_downs)] := by
  intro m_ups m_downs l1 l13 k0 r_m_ups r_m_downs r_l1 r_l13 r_k0 h
  rw [wp_X8_reckon_149] at h
  refine q_lstore (lv' := [(15, .long (i64 k0)), (0, .ref hX8), (1, .int (i32 l1)), (13, .long (i64 l13))]) g 15   (by decide) rfl dX8_reckon_149 ?_
  refine q_lload g 13 3 rfl dX8_reckon_151 ?_
  refine q_lconst g 0 0 rfl dX8_reckon_153 ?_
  refine q_lcmp_lt g (10) 165 r_l13 (r64_lit _ (by decide)) (by decide) dX8_reckon_154 dX8_reckon_155 (fun b154 => ?_) (fun b154 => ?_)
  · replace h := h.1 b154
    refine q_lv (lv' := []) [] rfl ?_
    exact s_X8_reckon_165 g hR hX8 aX8_ups aX8_downs m_many aX8_row m_isSpent m_found aX8_sumMany aX8_sumShares aX8_sumSet aX8_taken aX8_restUp aX8_restDown m_fewest m_wishes aX8_wished aX8_far aX8_queue m_divided aX8_divisors aX8_least m_pairOne m_pairTwo m_sumUp m_sumDown Q hF m_ups m_downs r_m_ups r_m_downs h
  replace h := h.2 b154
  refine q_lload g 15 0 rfl dX8_reckon_158 ?_
  refine q_lconst g 0 0 rfl dX8_reckon_160 ?_
  refine q_lcmp_ne g (6) 168 r_k0 (r64_lit _ (by decide)) (by decide) dX8_reckon_161 dX8_reckon_162 (fun b161 => ?_) (fun b161 => ?_)
  · replace h := h.1 b161
    refine q_lload g 13 3 rfl dX8_reckon_168 ?_
    refine q_lload g 15 0 rfl dX8_reckon_170 ?_
    refine q_callS (lev := 1) (mc := 0) (ms := 0) (As := [.long (i64 l13), .long (i64 k0)]) g 64 (c_X8_gcd X.l X.D X.cI X.cJ X.zt l13 k0 _ r_l13 r_k0 h) (wr := [(hX8, .inr (7, [.ref aX8_ups, .ref aX8_downs, .int (i32 m_many), .ref aX8_row, .int (i32 m_isSpent), .int (i32 m_found), .ref aX8_sumMany, .ref aX8_sumShares, .ref aX8_sumSet, .ref aX8_taken, .ref aX8_restUp, .ref aX8_restDown, .int (i32 m_fewest), .int (i32 m_wishes), .ref aX8_wished, .ref aX8_far, .ref aX8_queue, .int (i32 m_divided), .ref aX8_divisors, .ref aX8_least, .long (i64 m_pairOne), .long (i64 m_pairTwo), .long (i64 m_sumUp), .long (i64 m_sumDown)])), (aX8_ups, aI X.cI 8 m_ups), (aX8_downs, aI X.cI 8 m_downs)]) [] [0, 1, 2] rfl rfl rfl (by decide) (by decide) (by decide) wM_X8_64 wT_X8_gcd wZ_X8 wC_X8_gcd 2 rfl (by decide +kernel) (by rw [hR]; exact ⟨by show 1 + 1 ≤ 3; omega, by show 8 + (10 + 11) + 100 * 1 ≤ 100 * 3; omega⟩) (by rw [hR]; exact ⟨Nat.le_refl _, Nat.le_refl _⟩) (Nat.le_of_ble_eq_true rfl) rfl dX8_reckon_172 (fun rv w1 hq => ?_)
    obtain ⟨x172, rfl, rfl, rx172, h⟩ := hq
    show Wat X 0 0 175 [(15, .long (i64 k0)), (0, .ref hX8), (1, .int (i32 l1)), (13, .long (i64 l13))] [.long (i64 x172)] [(hX8, .inr (7, [.ref aX8_ups, .ref aX8_downs, .int (i32 m_many), .ref aX8_row, .int (i32 m_isSpent), .int (i32 m_found), .ref aX8_sumMany, .ref aX8_sumShares, .ref aX8_sumSet, .ref aX8_taken, .ref aX8_restUp, .ref aX8_restDown, .int (i32 m_fewest), .int (i32 m_wishes), .ref aX8_wished, .ref aX8_far, .ref aX8_queue, .int (i32 m_divided), .ref aX8_divisors, .ref aX8_least, .long (i64 m_pairOne), .long (i64 m_pairTwo), .long (i64 m_sumUp), .long (i64 m_sumDown)])), (aX8_ups, aI X.cI 8 m_ups), (aX8_downs, aI X.cI 8 m_downs)]
    refine q_lstore (lv' := [(17, .long (i64 x172)), (15, .long (i64 k0)), (0, .ref hX8), (1, .int (i32 l1)), (13, .long (i64 l13))]) g 17   (by decide) rfl dX8_reckon_175 ?_
    refine q_lload g 13 4 rfl dX8_reckon_177 ?_
    refine q_lload g 17 0 rfl dX8_reckon_179 ?_
    obtain ⟨c181, h⟩ := h
    refine q_ldiv g r_l13 rx172 (ne_of_pos c181) dX8_reckon_181 ?_
    refine q_ldc2 (w := 1000000) g 72 (1000000) (by decide +kernel) wL_X8_72 dX8_reckon_182 ?_
    refine q_lcmp_gt g (15) 201 (r64_tdiv r_l13 c181) (r64_lit _ (by decide)) (by decide) dX8_reckon_185 dX8_reckon_186 (fun b185 => ?_) (fun b185 => ?_)
    · replace h := h.1 b185
      refine q_lv (lv' := []) [] rfl ?_
      exact s_X8_reckon_201 g hR hX8 aX8_ups aX8_downs m_many aX8_row m_isSpent m_found aX8_sumMany aX8_sumShares aX8_sumSet aX8_taken aX8_restUp aX8_restDown m_fewest m_wishes aX8_wished aX8_far aX8_queue m_divided aX8_divisors aX8_least m_pairOne m_pairTwo m_sumUp m_sumDown Q hF m_ups m_downs r_m_ups r_m_downs h
    replace h := h.2 b185
    refine q_lload g 15 1 rfl dX8_reckon_189 ?_
    refine q_lload g 17 0 rfl dX8_reckon_191 ?_
    obtain ⟨c193, h⟩ := h
    refine q_ldiv g r_k0 rx172 (ne_of_pos c193) dX8_reckon_193 ?_
    refine q_ldc2 (w := 1000000) g 72 (1000000) (by decide +kernel) wL_X8_72 dX8_reckon_194 ?_
    refine q_lcmp_le g (6) 204 (r64_tdiv r_k0 c193) (r64_lit _ (by decide)) (by decide) dX8_reckon_197 dX8_reckon_198 (fun b197 => ?_) (fun b197 => ?_)
    · replace h := h.1 b197
      refine q_aload_n g 0 2 rfl dX8_reckon_204 ?_
      refine q_iload_n g 1 3 rfl dX8_reckon_205 ?_
      refine q_lload g 13 4 rfl dX8_reckon_206 ?_
      refine q_lload g 15 1 rfl dX8_reckon_208 ?_
      refine q_callV (lev := 2) (mc := 0) (ms := 0) g 74 (c_X8_keep X.l X.D X.cI X.cJ X.zt hX8 aX8_ups aX8_downs m_many aX8_row m_isSpent m_found aX8_sumMany aX8_sumShares aX8_sumSet aX8_taken aX8_restUp aX8_restDown m_fewest m_wishes aX8_wished aX8_far aX8_queue m_divided aX8_divisors aX8_least m_pairOne m_pairTwo m_sumUp m_sumDown m_ups m_downs l1 l13 k0 _ r_m_ups r_m_downs r_l1 r_l13 r_k0 h) (wr := []) [0, 1, 2] [] rfl rfl rfl (by decide) (by decide) (by decide) (ci := 7) rfl rfl rfl wM_X8_74 wI_X8_keep wS_X8_keep wZ_X8 wC_X8_keep 3 rfl (by decide +kernel) (by rw [hR]; exact ⟨by show 2 + 1 ≤ 3; omega, by show 8 + (8 + 11) + 100 * 2 ≤ 100 * 3; omega⟩) (by rw [hR]; exact ⟨Nat.le_refl _, Nat.le_refl _⟩) (Nat.le_of_ble_eq_true rfl) rfl dX8_reckon_210 (fun rv w1 hq => ?_)
      obtain ⟨m_ups_210, m_downs_210, rfl, rfl, rm_ups_210, rm_downs_210, h⟩ := hq
      show Wat X 0 0 213 [(17, .long (i64 x172)), (15, .long (i64 k0)), (0, .ref hX8), (1, .int (i32 l1)), (13, .long (i64 l13))] [] [(hX8, .inr (7, [.ref aX8_ups, .ref aX8_downs, .int (i32 m_many), .ref aX8_row, .int (i32 m_isSpent), .int (i32 m_found), .ref aX8_sumMany, .ref aX8_sumShares, .ref aX8_sumSet, .ref aX8_taken, .ref aX8_restUp, .ref aX8_restDown, .int (i32 m_fewest), .int (i32 m_wishes), .ref aX8_wished, .ref aX8_far, .ref aX8_queue, .int (i32 m_divided), .ref aX8_divisors, .ref aX8_least, .long (i64 m_pairOne), .long (i64 m_pairTwo), .long (i64 m_sumUp), .long (i64 m_sumDown)])), (aX8_ups, aI X.cI 8 m_ups_210), (aX8_downs, aI X.cI 8 m_downs_210)]
      refine q_iconst g (0) dX8_reckon_213 ?_
      exact q_iret g hF ⟨0, m_ups_210, m_downs_210, rfl, rfl, (r32_lit _ (by decide)), rm_ups_210, rm_downs_210, h⟩ dX8_reckon_214
    replace h := h.2 b197
    refine q_lv (lv' := []) [] rfl ?_
    exact s_X8_reckon_201 g hR hX8 aX8_ups aX8_downs m_many aX8_row m_isSpent m_found aX8_sumMany aX8_sumShares aX8_sumSet aX8_taken aX8_restUp aX8_restDown m_fewest m_wishes aX8_wished aX8_far aX8_queue m_divided aX8_divisors aX8_least m_pairOne m_pairTwo m_sumUp m_sumDown Q hF m_ups m_downs r_m_ups r_m_downs h
  replace h := h.2 b161
  refine q_lv (lv' := []) [] rfl ?_
  exact s_X8_reckon_165 g hR hX8 aX8_ups aX8_downs m_many aX8_row m_isSpent m_found aX8_sumMany aX8_sumShares aX8_sumSet aX8_taken aX8_restUp aX8_restDown m_fewest m_wishes aX8_wished aX8_far aX8_queue m_divided aX8_divisors aX8_least m_pairOne m_pairTwo m_sumUp m_sumDown Q hF m_ups m_downs r_m_ups r_m_downs h
def wp_X8_reckon_129 (Q : Int → (Int → Int) → (Int → Int) → Prop) (m_ups : Int → Int) (m_downs : Int → Int) (l1 : Int) (l2 : Int) (l7 : Int) (l9 : Int) (l11 : Int) (k0 : Int) : Prop := ((¬ l2 = 3 → (r64 (l7 * l11) ∧ wp_X8_reckon_149 Q m_ups m_downs l1 k0 (l7 * l11))) ∧
  (l2 = 3 → (r64 (l7 * l9) ∧ wp_X8_reckon_149 Q m_ups m_downs l1 k0 (l7 * l9))))
set_option maxHeartbeats 4000000 in
set_option maxRecDepth 100000 in
theorem s_X8_reckon_129 {X : Cx} (g : Gd X cX8_reckon RX8 (some .int) 19) (hR : X.R = rmL 3 0 0) (hX8 : Nat) (aX8_ups : Nat) (aX8_downs : Nat) (m_many : Int) (aX8_row : Nat) (m_isSpent : Int) (m_found : Int) (aX8_sumMany : Nat) (aX8_sumShares : Nat) (aX8_sumSet : Nat) (aX8_taken : Nat) (aX8_restUp : Nat) (aX8_restDown : Nat) (m_fewest : Int) (m_wishes : Int) (aX8_wished : Nat) (aX8_far : Nat) (aX8_queue : Nat) (m_divided : Int) (aX8_divisors : Nat) (aX8_least : Nat) (m_pairOne : Int) (m_pairTwo : Int) (m_sumUp : Int) (m_sumDown : Int) (Q : Int → (Int → Int) → (Int → Int) → Prop) (hF : FQ X 0 0 (po_X8_reckon X.cI X.cJ hX8 aX8_ups aX8_downs m_many aX8_row m_isSpent m_found aX8_sumMany aX8_sumShares aX8_sumSet aX8_taken aX8_restUp aX8_restDown m_fewest m_wishes aX8_wished aX8_far aX8_queue m_divided aX8_divisors aX8_least m_pairOne m_pairTwo m_sumUp m_sumDown Q)) : ∀ (m_ups : Int → Int) (m_downs : Int → Int) (l1 : Int) (l2 : Int) (l7 : Int) (l9 : Int) (l11 : Int) (k0 : Int), rr32 m_ups → rr32 m_downs → r32 l1 → r32 l2 → r64 l7 → r64 l9 → r64 l11 → r64 k0 → wp_X8_reckon_129 Q m_ups m_downs l1 l2 l7 l9 l11 k0 → Wat X 0 0 129 [(0, .ref hX8), (1, .int (i32 l1)), (2, .int (i32 l2)), (7, .long (i64 l7)), (9, .long (i64 l9)), (11, .long (i64 l11))] [.long (i64 k0)] [(hX8, .inr (7, [.ref aX8_ups, .ref aX8_downs, .int (i32 m_many), .ref aX8_row, .int (i32 m_isSpent), .int (i32 m_found), .ref aX8_sumMany, .ref aX8_sumShares, .ref aX8_sumSet, .ref aX8_taken, .ref aX8_restUp, .ref aX8_restDown, .int (i32 m_fewest), .int (i32 m_wishes), .ref aX8_wished, .ref aX8_far, .ref aX8_queue, .int (i32 m_divided), .ref aX8_divisors, .ref aX8_least, .long (i64 m_pairOne), .long (i64 m_pairTwo), .long (i64 m_sumUp), .long (i64 m_sumDown)])), (aX8_ups, aI X.cI 8 m_ups), (aX8_downs, aI X.cI 8 m_downs)] := by
  intro m_ups m_downs l1 l2 l7 l9 l11 k0 r_m_ups r_m_downs r_l1 r_l2 r_l7 r_l9 r_l11 r_k0 h
  rw [wp_X8_reckon_129] at h
  refine q_lstore (lv' := [(13, .long (i64 k0)), (0, .ref hX8), (1, .int (i32 l1)), (2, .int (i32 l2)), (7, .long (i64 l7)), (9, .long (i64 l9)), (11, .long (i64 l11))]) g 13   (by decide) rfl dX8_reckon_129 ?_
  refine q_iload_n g 2 3 rfl dX8_reckon_131 ?_
  refine q_iconst g (3) dX8_reckon_132 ?_
  refine q_icmp_ne g (11) 144 r_l2 (r32_lit _ (by decide)) (by decide) dX8_reckon_133 (fun b133 => ?_) (fun b133 => ?_)
  · replace h := h.1 b133
    refine q_lload g 7 4 rfl dX8_reckon_144 ?_
    refine q_lload g 11 6 rfl dX8_reckon_146 ?_
    obtain ⟨c148, h⟩ := h
    refine q_lmul g dX8_reckon_148 ?_
    refine q_lv (lv' := [(0, .ref hX8), (1, .int (i32 l1)), (13, .long (i64 k0))]) [1, 2, 0] rfl ?_
    exact s_X8_reckon_149 g hR hX8 aX8_ups aX8_downs m_many aX8_row m_isSpent m_found aX8_sumMany aX8_sumShares aX8_sumSet aX8_taken aX8_restUp aX8_restDown m_fewest m_wishes aX8_wished aX8_far aX8_queue m_divided aX8_divisors aX8_least m_pairOne m_pairTwo m_sumUp m_sumDown Q hF m_ups m_downs l1 k0 (l7 * l11) r_m_ups r_m_downs r_l1 r_k0 c148 h
  replace h := h.2 b133
  refine q_lload g 7 4 rfl dX8_reckon_136 ?_
  refine q_lload g 9 5 rfl dX8_reckon_138 ?_
  obtain ⟨c140, h⟩ := h
  refine q_lmul g dX8_reckon_140 ?_
  refine q_goto g (8) 149 (by decide) dX8_reckon_141 ?_
  refine q_lv (lv' := [(0, .ref hX8), (1, .int (i32 l1)), (13, .long (i64 k0))]) [1, 2, 0] rfl ?_
  exact s_X8_reckon_149 g hR hX8 aX8_ups aX8_downs m_many aX8_row m_isSpent m_found aX8_sumMany aX8_sumShares aX8_sumSet aX8_taken aX8_restUp aX8_restDown m_fewest m_wishes aX8_wished aX8_far aX8_queue m_divided aX8_divisors aX8_least m_pairOne m_pairTwo m_sumUp m_sumDown Q hF m_ups m_downs l1 k0 (l7 * l9) r_m_ups r_m_downs r_l1 r_k0 c140 h
def wp_X8_reckon (Q : Int → (Int → Int) → (Int → Int) → Prop) (m_ups : Int → Int) (m_downs : Int → Int) (l1 : Int) (l2 : Int) (l3 : Int) (l4 : Int) : Prop := wp_X8_isRegister (fun (x1 : Int) => ((x1 = 0 → wp_X8_reckon_34 Q m_ups m_downs) ∧
  (¬ (x1 = 0) → wp_X8_in (fun (x13 : Int) => ((x13 = 0 → wp_X8_reckon_34 Q m_ups m_downs) ∧
  (¬ (x13 = 0) → wp_X8_isRegister (fun (x20 : Int) => ((x20 = 0 → wp_X8_reckon_34 Q m_ups m_downs) ∧
  (¬ (x20 = 0) → wp_X8_isRegister (fun (x28 : Int) => ((¬ x28 = 0 → (0 ≤ l3 ∧ l3 < 8 ∧ ∀ x43 : Int, x43 = (m_ups l3) → 0 ≤ l3 ∧ l3 < 8 ∧ ∀ x52 : Int, x52 = (m_downs l3) → 0 ≤ l4 ∧ l4 < 8 ∧ ∀ x62 : Int, x62 = (m_ups l4) → 0 ≤ l4 ∧ l4 < 8 ∧ ∀ x72 : Int, x72 = (m_downs l4) → ((¬ l2 = 0 → ((¬ l2 = 1 → ((¬ l2 = 2 → (r64 (x43 * x72) ∧ wp_X8_reckon_129 Q m_ups m_downs l1 l2 x52 x62 x72 (x43 * x72))) ∧
  (l2 = 2 → (r64 (x43 * x62) ∧ wp_X8_reckon_129 Q m_ups m_downs l1 l2 x52 x62 x72 (x43 * x62))))) ∧
  (l2 = 1 → (r64 (x43 * x72) ∧ r64 (x62 * x52) ∧ r64 ((x43 * x72) - (x62 * x52)) ∧ wp_X8_reckon_129 Q m_ups m_downs l1 l2 x52 x62 x72 ((x43 * x72) - (x62 * x52)))))) ∧
  (l2 = 0 → (r64 (x43 * x72) ∧ r64 (x62 * x52) ∧ r64 ((x43 * x72) + (x62 * x52)) ∧ wp_X8_reckon_129 Q m_ups m_downs l1 l2 x52 x62 x72 ((x43 * x72) + (x62 * x52))))))) ∧
  (x28 = 0 → wp_X8_reckon_34 Q m_ups m_downs))) l4))) l3))) l2 0 3))) l1
set_option maxHeartbeats 4000000 in
set_option maxRecDepth 100000 in
theorem c_X8_reckon (l : Launch) (D : va_G) (cI cJ : ClassId) (zt : Nat) (hX8 : Nat) (aX8_ups : Nat) (aX8_downs : Nat) (m_many : Int) (aX8_row : Nat) (m_isSpent : Int) (m_found : Int) (aX8_sumMany : Nat) (aX8_sumShares : Nat) (aX8_sumSet : Nat) (aX8_taken : Nat) (aX8_restUp : Nat) (aX8_restDown : Nat) (m_fewest : Int) (m_wishes : Int) (aX8_wished : Nat) (aX8_far : Nat) (aX8_queue : Nat) (m_divided : Int) (aX8_divisors : Nat) (aX8_least : Nat) (m_pairOne : Int) (m_pairTwo : Int) (m_sumUp : Int) (m_sumDown : Int) (m_ups : Int → Int) (m_downs : Int → Int) (l1 : Int) (l2 : Int) (l3 : Int) (l4 : Int) (Q : Int → (Int → Int) → (Int → Int) → Prop) (r_m_ups : rr32 m_ups) (r_m_downs : rr32 m_downs) (r_l1 : r32 l1) (r_l2 : r32 l2) (r_l3 : r32 l3) (r_l4 : r32 l4) (h : wp_X8_reckon Q m_ups m_downs l1 l2 l3 l4) : Ct l D cI cJ zt yX8_reckon cX8_reckon 19 (some .int) 3 0 0 [.ref hX8, .int (i32 l1), .int (i32 l2), .int (i32 l3), .int (i32 l4)] [(hX8, .inr (7, [.ref aX8_ups, .ref aX8_downs, .int (i32 m_many), .ref aX8_row, .int (i32 m_isSpent), .int (i32 m_found), .ref aX8_sumMany, .ref aX8_sumShares, .ref aX8_sumSet, .ref aX8_taken, .ref aX8_restUp, .ref aX8_restDown, .int (i32 m_fewest), .int (i32 m_wishes), .ref aX8_wished, .ref aX8_far, .ref aX8_queue, .int (i32 m_divided), .ref aX8_divisors, .ref aX8_least, .long (i64 m_pairOne), .long (i64 m_pairTwo), .long (i64 m_sumUp), .long (i64 m_sumDown)])), (aX8_ups, aI cI 8 m_ups), (aX8_downs, aI cI 8 m_downs)] (po_X8_reckon cI cJ hX8 aX8_ups aX8_downs m_many aX8_row m_isSpent m_found aX8_sumMany aX8_sumShares aX8_sumSet aX8_taken aX8_restUp aX8_restDown m_fewest m_wishes aX8_wished aX8_far aX8_queue m_divided aX8_divisors aX8_least m_pairOne m_pairTwo m_sumUp m_sumDown Q) := by
  refine ct_of (by decide +kernel) (Nat.le_of_ble_eq_true rfl) (fun X hl hDD hcI hcJ hzt hR hF hnm g => ?_)
  subst hl; subst hDD; subst hcI; subst hcJ; subst hzt
  show Wat X 0 0 0 [(0, .ref hX8), (1, .int (i32 l1)), (2, .int (i32 l2)), (3, .int (i32 l3)), (4, .int (i32 l4))] [] [(hX8, .inr (7, [.ref aX8_ups, .ref aX8_downs, .int (i32 m_many), .ref aX8_row, .int (i32 m_isSpent), .int (i32 m_found), .ref aX8_sumMany, .ref aX8_sumShares, .ref aX8_sumSet, .ref aX8_taken, .ref aX8_restUp, .ref aX8_restDown, .int (i32 m_fewest), .int (i32 m_wishes), .ref aX8_wished, .ref aX8_far, .ref aX8_queue, .int (i32 m_divided), .ref aX8_divisors, .ref aX8_least, .long (i64 m_pairOne), .long (i64 m_pairTwo), .long (i64 m_sumUp), .long (i64 m_sumDown)])), (aX8_ups, aI X.cI 8 m_ups), (aX8_downs, aI X.cI 8 m_downs)]
  replace g : Gd X cX8_reckon RX8 (some .int) 19 := g
  rw [wp_X8_reckon] at h
  refine q_iload_n g 1 1 rfl dX8_reckon_0 ?_
  refine q_callS (lev := 2) (mc := 0) (ms := 0) (As := [.int (i32 l1)]) g 68 (c_X8_isRegister X.l X.D X.cI X.cJ X.zt l1 _ r_l1 h) (wr := [(hX8, .inr (7, [.ref aX8_ups, .ref aX8_downs, .int (i32 m_many), .ref aX8_row, .int (i32 m_isSpent), .int (i32 m_found), .ref aX8_sumMany, .ref aX8_sumShares, .ref aX8_sumSet, .ref aX8_taken, .ref aX8_restUp, .ref aX8_restDown, .int (i32 m_fewest), .int (i32 m_wishes), .ref aX8_wished, .ref aX8_far, .ref aX8_queue, .int (i32 m_divided), .ref aX8_divisors, .ref aX8_least, .long (i64 m_pairOne), .long (i64 m_pairTwo), .long (i64 m_sumUp), .long (i64 m_sumDown)])), (aX8_ups, aI X.cI 8 m_ups), (aX8_downs, aI X.cI 8 m_downs)]) [] [0, 1, 2] rfl rfl rfl (by decide) (by decide) (by decide) wM_X8_68 wT_X8_isRegister wZ_X8 wC_X8_isRegister 1 rfl (by decide +kernel) (by rw [hR]; exact ⟨by show 2 + 1 ≤ 3; omega, by show 8 + (1 + 11) + 100 * 2 ≤ 100 * 3; omega⟩) (by rw [hR]; exact ⟨Nat.le_refl _, Nat.le_refl _⟩) (Nat.le_of_ble_eq_true rfl) rfl dX8_reckon_1 (fun rv w1 hq => ?_)
  obtain ⟨x1, rfl, rfl, rx1, h⟩ := hq
  show Wat X 0 0 4 [(0, .ref hX8), (1, .int (i32 l1)), (2, .int (i32 l2)), (3, .int (i32 l3)), (4, .int (i32 l4))] [.int (i32 x1)] [(hX8, .inr (7, [.ref aX8_ups, .ref aX8_downs, .int (i32 m_many), .ref aX8_row, .int (i32 m_isSpent), .int (i32 m_found), .ref aX8_sumMany, .ref aX8_sumShares, .ref aX8_sumSet, .ref aX8_taken, .ref aX8_restUp, .ref aX8_restDown, .int (i32 m_fewest), .int (i32 m_wishes), .ref aX8_wished, .ref aX8_far, .ref aX8_queue, .int (i32 m_divided), .ref aX8_divisors, .ref aX8_least, .long (i64 m_pairOne), .long (i64 m_pairTwo), .long (i64 m_sumUp), .long (i64 m_sumDown)])), (aX8_ups, aI X.cI 8 m_ups), (aX8_downs, aI X.cI 8 m_downs)]
  refine q_if_eq g (30) 34 rx1 (by decide) dX8_reckon_4 (fun b4 => ?_) (fun b4 => ?_)
  · replace h := h.1 b4
    refine q_lv (lv' := []) [] rfl ?_
    exact s_X8_reckon_34 g hR hX8 aX8_ups aX8_downs m_many aX8_row m_isSpent m_found aX8_sumMany aX8_sumShares aX8_sumSet aX8_taken aX8_restUp aX8_restDown m_fewest m_wishes aX8_wished aX8_far aX8_queue m_divided aX8_divisors aX8_least m_pairOne m_pairTwo m_sumUp m_sumDown Q hF m_ups m_downs r_m_ups r_m_downs h
  replace h := h.2 b4
  refine q_iload_n g 2 2 rfl dX8_reckon_7 ?_
  refine q_i2l g r_l2 dX8_reckon_8 ?_
  refine q_lconst g 0 0 rfl dX8_reckon_9 ?_
  refine q_ldc2 (w := 3) g 78 (3) (by decide +kernel) wL_X8_78 dX8_reckon_10 ?_
  refine q_callS (lev := 1) (mc := 0) (ms := 0) (As := [.long (i64 l2), .long (i64 0), .long (i64 3)]) g 60 (c_X8_in X.l X.D X.cI X.cJ X.zt l2 0 3 _ (r32_64 r_l2) (r64_lit _ (by decide)) (r64_lit _ (by decide)) h) (wr := [(hX8, .inr (7, [.ref aX8_ups, .ref aX8_downs, .int (i32 m_many), .ref aX8_row, .int (i32 m_isSpent), .int (i32 m_found), .ref aX8_sumMany, .ref aX8_sumShares, .ref aX8_sumSet, .ref aX8_taken, .ref aX8_restUp, .ref aX8_restDown, .int (i32 m_fewest), .int (i32 m_wishes), .ref aX8_wished, .ref aX8_far, .ref aX8_queue, .int (i32 m_divided), .ref aX8_divisors, .ref aX8_least, .long (i64 m_pairOne), .long (i64 m_pairTwo), .long (i64 m_sumUp), .long (i64 m_sumDown)])), (aX8_ups, aI X.cI 8 m_ups), (aX8_downs, aI X.cI 8 m_downs)]) [] [0, 1, 2] rfl rfl rfl (by decide) (by decide) (by decide) wM_X8_60 wT_X8_in wZ_X8 wC_X8_in 3 rfl (by decide +kernel) (by rw [hR]; exact ⟨by show 1 + 1 ≤ 3; omega, by show 8 + (6 + 11) + 100 * 1 ≤ 100 * 3; omega⟩) (by rw [hR]; exact ⟨Nat.le_refl _, Nat.le_refl _⟩) (Nat.le_of_ble_eq_true rfl) rfl dX8_reckon_13 (fun rv w1 hq => ?_)
  obtain ⟨x13, rfl, rfl, rx13, h⟩ := hq
  show Wat X 0 0 16 [(0, .ref hX8), (1, .int (i32 l1)), (2, .int (i32 l2)), (3, .int (i32 l3)), (4, .int (i32 l4))] [.int (i32 x13)] [(hX8, .inr (7, [.ref aX8_ups, .ref aX8_downs, .int (i32 m_many), .ref aX8_row, .int (i32 m_isSpent), .int (i32 m_found), .ref aX8_sumMany, .ref aX8_sumShares, .ref aX8_sumSet, .ref aX8_taken, .ref aX8_restUp, .ref aX8_restDown, .int (i32 m_fewest), .int (i32 m_wishes), .ref aX8_wished, .ref aX8_far, .ref aX8_queue, .int (i32 m_divided), .ref aX8_divisors, .ref aX8_least, .long (i64 m_pairOne), .long (i64 m_pairTwo), .long (i64 m_sumUp), .long (i64 m_sumDown)])), (aX8_ups, aI X.cI 8 m_ups), (aX8_downs, aI X.cI 8 m_downs)]
  refine q_if_eq g (18) 34 rx13 (by decide) dX8_reckon_16 (fun b16 => ?_) (fun b16 => ?_)
  · replace h := h.1 b16
    refine q_lv (lv' := []) [] rfl ?_
    exact s_X8_reckon_34 g hR hX8 aX8_ups aX8_downs m_many aX8_row m_isSpent m_found aX8_sumMany aX8_sumShares aX8_sumSet aX8_taken aX8_restUp aX8_restDown m_fewest m_wishes aX8_wished aX8_far aX8_queue m_divided aX8_divisors aX8_least m_pairOne m_pairTwo m_sumUp m_sumDown Q hF m_ups m_downs r_m_ups r_m_downs h
  replace h := h.2 b16
  refine q_iload_n g 3 3 rfl dX8_reckon_19 ?_
  refine q_callS (lev := 2) (mc := 0) (ms := 0) (As := [.int (i32 l3)]) g 68 (c_X8_isRegister X.l X.D X.cI X.cJ X.zt l3 _ r_l3 h) (wr := [(hX8, .inr (7, [.ref aX8_ups, .ref aX8_downs, .int (i32 m_many), .ref aX8_row, .int (i32 m_isSpent), .int (i32 m_found), .ref aX8_sumMany, .ref aX8_sumShares, .ref aX8_sumSet, .ref aX8_taken, .ref aX8_restUp, .ref aX8_restDown, .int (i32 m_fewest), .int (i32 m_wishes), .ref aX8_wished, .ref aX8_far, .ref aX8_queue, .int (i32 m_divided), .ref aX8_divisors, .ref aX8_least, .long (i64 m_pairOne), .long (i64 m_pairTwo), .long (i64 m_sumUp), .long (i64 m_sumDown)])), (aX8_ups, aI X.cI 8 m_ups), (aX8_downs, aI X.cI 8 m_downs)]) [] [0, 1, 2] rfl rfl rfl (by decide) (by decide) (by decide) wM_X8_68 wT_X8_isRegister wZ_X8 wC_X8_isRegister 1 rfl (by decide +kernel) (by rw [hR]; exact ⟨by show 2 + 1 ≤ 3; omega, by show 8 + (1 + 11) + 100 * 2 ≤ 100 * 3; omega⟩) (by rw [hR]; exact ⟨Nat.le_refl _, Nat.le_refl _⟩) (Nat.le_of_ble_eq_true rfl) rfl dX8_reckon_20 (fun rv w1 hq => ?_)
  obtain ⟨x20, rfl, rfl, rx20, h⟩ := hq
  show Wat X 0 0 23 [(0, .ref hX8), (1, .int (i32 l1)), (2, .int (i32 l2)), (3, .int (i32 l3)), (4, .int (i32 l4))] [.int (i32 x20)] [(hX8, .inr (7, [.ref aX8_ups, .ref aX8_downs, .int (i32 m_many), .ref aX8_row, .int (i32 m_isSpent), .int (i32 m_found), .ref aX8_sumMany, .ref aX8_sumShares, .ref aX8_sumSet, .ref aX8_taken, .ref aX8_restUp, .ref aX8_restDown, .int (i32 m_fewest), .int (i32 m_wishes), .ref aX8_wished, .ref aX8_far, .ref aX8_queue, .int (i32 m_divided), .ref aX8_divisors, .ref aX8_least, .long (i64 m_pairOne), .long (i64 m_pairTwo), .long (i64 m_sumUp), .long (i64 m_sumDown)])), (aX8_ups, aI X.cI 8 m_ups), (aX8_downs, aI X.cI 8 m_downs)]
  refine q_if_eq g (11) 34 rx20 (by decide) dX8_reckon_23 (fun b23 => ?_) (fun b23 => ?_)
  · replace h := h.1 b23
    refine q_lv (lv' := []) [] rfl ?_
    exact s_X8_reckon_34 g hR hX8 aX8_ups aX8_downs m_many aX8_row m_isSpent m_found aX8_sumMany aX8_sumShares aX8_sumSet aX8_taken aX8_restUp aX8_restDown m_fewest m_wishes aX8_wished aX8_far aX8_queue m_divided aX8_divisors aX8_least m_pairOne m_pairTwo m_sumUp m_sumDown Q hF m_ups m_downs r_m_ups r_m_downs h
  replace h := h.2 b23
  refine q_iload g 4 4 rfl dX8_reckon_26 ?_
  refine q_callS (lev := 2) (mc := 0) (ms := 0) (As := [.int (i32 l4)]) g 68 (c_X8_isRegister X.l X.D X.cI X.cJ X.zt l4 _ r_l4 h) (wr := [(hX8, .inr (7, [.ref aX8_ups, .ref aX8_downs, .int (i32 m_many), .ref aX8_row, .int (i32 m_isSpent), .int (i32 m_found), .ref aX8_sumMany, .ref aX8_sumShares, .ref aX8_sumSet, .ref aX8_taken, .ref aX8_restUp, .ref aX8_restDown, .int (i32 m_fewest), .int (i32 m_wishes), .ref aX8_wished, .ref aX8_far, .ref aX8_queue, .int (i32 m_divided), .ref aX8_divisors, .ref aX8_least, .long (i64 m_pairOne), .long (i64 m_pairTwo), .long (i64 m_sumUp), .long (i64 m_sumDown)])), (aX8_ups, aI X.cI 8 m_ups), (aX8_downs, aI X.cI 8 m_downs)]) [] [0, 1, 2] rfl rfl rfl (by decide) (by decide) (by decide) wM_X8_68 wT_X8_isRegister wZ_X8 wC_X8_isRegister 1 rfl (by decide +kernel) (by rw [hR]; exact ⟨by show 2 + 1 ≤ 3; omega, by show 8 + (1 + 11) + 100 * 2 ≤ 100 * 3; omega⟩) (by rw [hR]; exact ⟨Nat.le_refl _, Nat.le_refl _⟩) (Nat.le_of_ble_eq_true rfl) rfl dX8_reckon_28 (fun rv w1 hq => ?_)
  obtain ⟨x28, rfl, rfl, rx28, h⟩ := hq
  show Wat X 0 0 31 [(0, .ref hX8), (1, .int (i32 l1)), (2, .int (i32 l2)), (3, .int (i32 l3)), (4, .int (i32 l4))] [.int (i32 x28)] [(hX8, .inr (7, [.ref aX8_ups, .ref aX8_downs, .int (i32 m_many), .ref aX8_row, .int (i32 m_isSpent), .int (i32 m_found), .ref aX8_sumMany, .ref aX8_sumShares, .ref aX8_sumSet, .ref aX8_taken, .ref aX8_restUp, .ref aX8_restDown, .int (i32 m_fewest), .int (i32 m_wishes), .ref aX8_wished, .ref aX8_far, .ref aX8_queue, .int (i32 m_divided), .ref aX8_divisors, .ref aX8_least, .long (i64 m_pairOne), .long (i64 m_pairTwo), .long (i64 m_sumUp), .long (i64 m_sumDown)])), (aX8_ups, aI X.cI 8 m_ups), (aX8_downs, aI X.cI 8 m_downs)]
  refine q_if_ne g (5) 36 rx28 (by decide) dX8_reckon_31 (fun b31 => ?_) (fun b31 => ?_)
  · replace h := h.1 b31
    refine q_aload_n g 0 0 rfl dX8_reckon_36 ?_
    refine q_get (C := RX8) (T := TX8) (N := 24) g 7 inX8 0 0 rfl rfl (by decide) wF_X8_7 rfl dX8_reckon_37 ?_
    refine q_iload_n g 3 3 rfl dX8_reckon_40 ?_
    obtain ⟨c41, h⟩ := h
    obtain ⟨e41, h⟩ := h
    refine q_iald g 1 rfl c41 e41 (by decide) dX8_reckon_41 ?_
    refine q_i2l g (r_m_ups _) dX8_reckon_42 ?_
    refine q_topl (r32_64 (r_m_ups _)) (fun x43 ex43 rx43 => ?_)
    replace h := h x43 ex43
    refine q_lstore (lv' := [(5, .long (i64 x43)), (0, .ref hX8), (1, .int (i32 l1)), (2, .int (i32 l2)), (3, .int (i32 l3)), (4, .int (i32 l4))]) g 5   (by decide) rfl dX8_reckon_43 ?_
    refine q_aload_n g 0 1 rfl dX8_reckon_45 ?_
    refine q_get (C := RX8) (T := TX8) (N := 24) g 13 inX8 0 1 rfl rfl (by decide) wF_X8_13 rfl dX8_reckon_46 ?_
    refine q_iload_n g 3 4 rfl dX8_reckon_49 ?_
    obtain ⟨c50, h⟩ := h
    obtain ⟨e50, h⟩ := h
    refine q_iald g 2 rfl c50 e50 (by decide) dX8_reckon_50 ?_
    refine q_i2l g (r_m_downs _) dX8_reckon_51 ?_
    refine q_topl (r32_64 (r_m_downs _)) (fun x52 ex52 rx52 => ?_)
    replace h := h x52 ex52
    refine q_lstore (lv' := [(7, .long (i64 x52)), (5, .long (i64 x43)), (0, .ref hX8), (1, .int (i32 l1)), (2, .int (i32 l2)), (3, .int (i32 l3)), (4, .int (i32 l4))]) g 7   (by decide) rfl dX8_reckon_52 ?_
    refine q_aload_n g 0 2 rfl dX8_reckon_54 ?_
    refine q_get (C := RX8) (T := TX8) (N := 24) g 7 inX8 0 0 rfl rfl (by decide) wF_X8_7 rfl dX8_reckon_55 ?_
    refine q_iload g 4 6 rfl dX8_reckon_58 ?_
    obtain ⟨c60, h⟩ := h
    obtain ⟨e60, h⟩ := h
    refine q_iald g 1 rfl c60 e60 (by decide) dX8_reckon_60 ?_
    refine q_i2l g (r_m_ups _) dX8_reckon_61 ?_
    refine q_topl (r32_64 (r_m_ups _)) (fun x62 ex62 rx62 => ?_)
    replace h := h x62 ex62
    refine q_lstore (lv' := [(9, .long (i64 x62)), (7, .long (i64 x52)), (5, .long (i64 x43)), (0, .ref hX8), (1, .int (i32 l1)), (2, .int (i32 l2)), (3, .int (i32 l3)), (4, .int (i32 l4))]) g 9   (by decide) rfl dX8_reckon_62 ?_
    refine q_aload_n g 0 3 rfl dX8_reckon_64 ?_
    refine q_get (C := RX8) (T := TX8) (N := 24) g 13 inX8 0 1 rfl rfl (by decide) wF_X8_13 rfl dX8_reckon_65 ?_
    refine q_iload g 4 7 rfl dX8_reckon_68 ?_
    obtain ⟨c70, h⟩ := h
    obtain ⟨e70, h⟩ := h
    refine q_iald g 2 rfl c70 e70 (by decide) dX8_reckon_70 ?_
    refine q_i2l g (r_m_downs _) dX8_reckon_71 ?_
    refine q_topl (r32_64 (r_m_downs _)) (fun x72 ex72 rx72 => ?_)
    replace h := h x72 ex72
    refine q_lstore (lv' := [(11, .long (i64 x72)), (9, .long (i64 x62)), (7, .long (i64 x52)), (5, .long (i64 x43)), (0, .ref hX8), (1, .int (i32 l1)), (2, .int (i32 l2)), (3, .int (i32 l3)), (4, .int (i32 l4))]) g 11   (by decide) rfl dX8_reckon_72 ?_
    refine q_iload_n g 2 6 rfl dX8_reckon_74 ?_
    refine q_if_ne g (17) 92 r_l2 (by decide) dX8_reckon_75 (fun b75 => ?_) (fun b75 => ?_)
    · replace h := h.1 b75
      refine q_iload_n g 2 6 rfl dX8_reckon_92 ?_
      refine q_iconst g (1) dX8_reckon_93 ?_
      refine q_icmp_ne g (17) 111 r_l2 (r32_lit _ (by decide)) (by decide) dX8_reckon_94 (fun b94 => ?_) (fun b94 => ?_)
      · replace h := h.1 b94
        refine q_iload_n g 2 6 rfl dX8_reckon_111 ?_
        refine q_iconst g (2) dX8_reckon_112 ?_
        refine q_icmp_ne g (11) 124 r_l2 (r32_lit _ (by decide)) (by decide) dX8_reckon_113 (fun b113 => ?_) (fun b113 => ?_)
        · replace h := h.1 b113
          refine q_lload g 5 3 rfl dX8_reckon_124 ?_
          refine q_lload g 11 0 rfl dX8_reckon_126 ?_
          obtain ⟨c128, h⟩ := h
          refine q_lmul g dX8_reckon_128 ?_
          refine q_lv (lv' := [(0, .ref hX8), (1, .int (i32 l1)), (2, .int (i32 l2)), (7, .long (i64 x52)), (9, .long (i64 x62)), (11, .long (i64 x72))]) [4, 5, 6, 2, 1, 0] rfl ?_
          exact s_X8_reckon_129 g hR hX8 aX8_ups aX8_downs m_many aX8_row m_isSpent m_found aX8_sumMany aX8_sumShares aX8_sumSet aX8_taken aX8_restUp aX8_restDown m_fewest m_wishes aX8_wished aX8_far aX8_queue m_divided aX8_divisors aX8_least m_pairOne m_pairTwo m_sumUp m_sumDown Q hF m_ups m_downs l1 l2 x52 x62 x72 (x43 * x72) r_m_ups r_m_downs r_l1 r_l2 rx52 rx62 rx72 c128 h
        replace h := h.2 b113
        refine q_lload g 5 3 rfl dX8_reckon_116 ?_
        refine q_lload g 9 1 rfl dX8_reckon_118 ?_
        obtain ⟨c120, h⟩ := h
        refine q_lmul g dX8_reckon_120 ?_
        refine q_goto g (8) 129 (by decide) dX8_reckon_121 ?_
        refine q_lv (lv' := [(0, .ref hX8), (1, .int (i32 l1)), (2, .int (i32 l2)), (7, .long (i64 x52)), (9, .long (i64 x62)), (11, .long (i64 x72))]) [4, 5, 6, 2, 1, 0] rfl ?_
        exact s_X8_reckon_129 g hR hX8 aX8_ups aX8_downs m_many aX8_row m_isSpent m_found aX8_sumMany aX8_sumShares aX8_sumSet aX8_taken aX8_restUp aX8_restDown m_fewest m_wishes aX8_wished aX8_far aX8_queue m_divided aX8_divisors aX8_least m_pairOne m_pairTwo m_sumUp m_sumDown Q hF m_ups m_downs l1 l2 x52 x62 x72 (x43 * x62) r_m_ups r_m_downs r_l1 r_l2 rx52 rx62 rx72 c120 h
      replace h := h.2 b94
      refine q_lload g 5 3 rfl dX8_reckon_97 ?_
      refine q_lload g 11 0 rfl dX8_reckon_99 ?_
      obtain ⟨c101, h⟩ := h
      refine q_lmul g dX8_reckon_101 ?_
      refine q_lload g 9 1 rfl dX8_reckon_102 ?_
      refine q_lload g 7 2 rfl dX8_reckon_104 ?_
      obtain ⟨c106, h⟩ := h
      refine q_lmul g dX8_reckon_106 ?_
      obtain ⟨c107, h⟩ := h
      refine q_lsub g dX8_reckon_107 ?_
      refine q_goto g (21) 129 (by decide) dX8_reckon_108 ?_
      refine q_lv (lv' := [(0, .ref hX8), (1, .int (i32 l1)), (2, .int (i32 l2)), (7, .long (i64 x52)), (9, .long (i64 x62)), (11, .long (i64 x72))]) [4, 5, 6, 2, 1, 0] rfl ?_
      exact s_X8_reckon_129 g hR hX8 aX8_ups aX8_downs m_many aX8_row m_isSpent m_found aX8_sumMany aX8_sumShares aX8_sumSet aX8_taken aX8_restUp aX8_restDown m_fewest m_wishes aX8_wished aX8_far aX8_queue m_divided aX8_divisors aX8_least m_pairOne m_pairTwo m_sumUp m_sumDown Q hF m_ups m_downs l1 l2 x52 x62 x72 ((x43 * x72) - (x62 * x52)) r_m_ups r_m_downs r_l1 r_l2 rx52 rx62 rx72 c107 h
    replace h := h.2 b75
    refine q_lload g 5 3 rfl dX8_reckon_78 ?_
    refine q_lload g 11 0 rfl dX8_reckon_80 ?_
    obtain ⟨c82, h⟩ := h
    refine q_lmul g dX8_reckon_82 ?_
    refine q_lload g 9 1 rfl dX8_reckon_83 ?_
    refine q_lload g 7 2 rfl dX8_reckon_85 ?_
    obtain ⟨c87, h⟩ := h
    refine q_lmul g dX8_reckon_87 ?_
    obtain ⟨c88, h⟩ := h
    refine q_ladd g dX8_reckon_88 ?_
    refine q_goto g (40) 129 (by decide) dX8_reckon_89 ?_
    refine q_lv (lv' := [(0, .ref hX8), (1, .int (i32 l1)), (2, .int (i32 l2)), (7, .long (i64 x52)), (9, .long (i64 x62)), (11, .long (i64 x72))]) [4, 5, 6, 2, 1, 0] rfl ?_
    exact s_X8_reckon_129 g hR hX8 aX8_ups aX8_downs m_many aX8_row m_isSpent m_found aX8_sumMany aX8_sumShares aX8_sumSet aX8_taken aX8_restUp aX8_restDown m_fewest m_wishes aX8_wished aX8_far aX8_queue m_divided aX8_divisors aX8_least m_pairOne m_pairTwo m_sumUp m_sumDown Q hF m_ups m_downs l1 l2 x52 x62 x72 ((x43 * x72) + (x62 * x52)) r_m_ups r_m_downs r_l1 r_l2 rx52 rx62 rx72 c88 h
  replace h := h.2 b31
  refine q_lv (lv' := []) [] rfl ?_
  exact s_X8_reckon_34 g hR hX8 aX8_ups aX8_downs m_many aX8_row m_isSpent m_found aX8_sumMany aX8_sumShares aX8_sumSet aX8_taken aX8_restUp aX8_restDown m_fewest m_wishes aX8_wished aX8_far aX8_queue m_divided aX8_divisors aX8_least m_pairOne m_pairTwo m_sumUp m_sumDown Q hF m_ups m_downs r_m_ups r_m_downs h
theorem dX8_rising_0 : decode cX8_rising 0 = .ok (.iload_n 1, 1) := by decide +kernel
theorem dX8_rising_1 : decode cX8_rising 1 = .ok (.i2l, 1) := by decide +kernel
theorem dX8_rising_2 : decode cX8_rising 2 = .ok (.ldc2_w 89, 3) := by decide +kernel
theorem dX8_rising_5 : decode cX8_rising 5 = .ok (.ldc2_w 222, 3) := by decide +kernel
theorem dX8_rising_8 : decode cX8_rising 8 = .ok (.invokestatic 60, 3) := by decide +kernel
theorem dX8_rising_11 : decode cX8_rising 11 = .ok (.ifCond .eq 15, 3) := by decide +kernel
theorem dX8_rising_14 : decode cX8_rising 14 = .ok (.iload_n 2, 1) := by decide +kernel
theorem dX8_rising_15 : decode cX8_rising 15 = .ok (.i2l, 1) := by decide +kernel
theorem dX8_rising_16 : decode cX8_rising 16 = .ok (.lconst 0, 1) := by decide +kernel
theorem dX8_rising_17 : decode cX8_rising 17 = .ok (.ldc2_w 89, 3) := by decide +kernel
theorem dX8_rising_20 : decode cX8_rising 20 = .ok (.invokestatic 60, 3) := by decide +kernel
theorem dX8_rising_23 : decode cX8_rising 23 = .ok (.ifCond .ne 7, 3) := by decide +kernel
theorem dX8_rising_26 : decode cX8_rising 26 = .ok (.ldc2_w 133, 3) := by decide +kernel
theorem dX8_rising_29 : decode cX8_rising 29 = .ok (.lreturn, 1) := by decide +kernel
theorem dX8_rising_30 : decode cX8_rising 30 = .ok (.aload_n 0, 1) := by decide +kernel
theorem dX8_rising_31 : decode cX8_rising 31 = .ok (.iload_n 1, 1) := by decide +kernel
theorem dX8_rising_32 : decode cX8_rising 32 = .ok (.invokevirtual 224, 3) := by decide +kernel
theorem dX8_rising_35 : decode cX8_rising 35 = .ok (.iload_n 2, 1) := by decide +kernel
theorem dX8_rising_36 : decode cX8_rising 36 = .ok (.ifCond .ne 15, 3) := by decide +kernel
theorem dX8_rising_39 : decode cX8_rising 39 = .ok (.aload_n 0, 1) := by decide +kernel
theorem dX8_rising_40 : decode cX8_rising 40 = .ok (.getfield 216, 3) := by decide +kernel
theorem dX8_rising_43 : decode cX8_rising 43 = .ok (.aload_n 0, 1) := by decide +kernel
theorem dX8_rising_44 : decode cX8_rising 44 = .ok (.getfield 219, 3) := by decide +kernel
theorem dX8_rising_47 : decode cX8_rising 47 = .ok (.ldiv, 1) := by decide +kernel
theorem dX8_rising_48 : decode cX8_rising 48 = .ok (.goto 24, 3) := by decide +kernel
theorem dX8_rising_51 : decode cX8_rising 51 = .ok (.iload_n 2, 1) := by decide +kernel
theorem dX8_rising_52 : decode cX8_rising 52 = .ok (.iconst 1, 1) := by decide +kernel
theorem dX8_rising_53 : decode cX8_rising 53 = .ok (.if_icmp .ne 15, 3) := by decide +kernel
theorem dX8_rising_56 : decode cX8_rising 56 = .ok (.aload_n 0, 1) := by decide +kernel
theorem dX8_rising_57 : decode cX8_rising 57 = .ok (.getfield 216, 3) := by decide +kernel
theorem dX8_rising_60 : decode cX8_rising 60 = .ok (.aload_n 0, 1) := by decide +kernel
theorem dX8_rising_61 : decode cX8_rising 61 = .ok (.getfield 219, 3) := by decide +kernel
theorem dX8_rising_64 : decode cX8_rising 64 = .ok (.lrem, 1) := by decide +kernel
theorem dX8_rising_65 : decode cX8_rising 65 = .ok (.goto 7, 3) := by decide +kernel
theorem dX8_rising_68 : decode cX8_rising 68 = .ok (.aload_n 0, 1) := by decide +kernel
theorem dX8_rising_69 : decode cX8_rising 69 = .ok (.getfield 219, 3) := by decide +kernel
theorem dX8_rising_72 : decode cX8_rising 72 = .ok (.lreturn, 1) := by decide +kernel
abbrev po_X8_rising (cI cJ : ClassId) (hX8 : Nat) (aX8_ups : Nat) (aX8_downs : Nat) (m_many : Int) (aX8_row : Nat) (m_isSpent : Int) (m_found : Int) (aX8_sumMany : Nat) (aX8_sumShares : Nat) (aX8_sumSet : Nat) (aX8_taken : Nat) (aX8_restUp : Nat) (aX8_restDown : Nat) (m_fewest : Int) (m_wishes : Int) (aX8_wished : Nat) (aX8_far : Nat) (aX8_queue : Nat) (m_divided : Int) (aX8_divisors : Nat) (aX8_least : Nat) (m_pairOne : Int) (m_pairTwo : Int) (Q : Int → Int → Int → Prop) : Option Value → va_W → Prop := fun rv w1 => ∃ (r0 : Int) (m_sumUp : Int) (m_sumDown : Int), rv = some (.long (i64 r0)) ∧ w1 = [(hX8, .inr (7, [.ref aX8_ups, .ref aX8_downs, .int (i32 m_many), .ref aX8_row, .int (i32 m_isSpent), .int (i32 m_found), .ref aX8_sumMany, .ref aX8_sumShares, .ref aX8_sumSet, .ref aX8_taken, .ref aX8_restUp, .ref aX8_restDown, .int (i32 m_fewest), .int (i32 m_wishes), .ref aX8_wished, .ref aX8_far, .ref aX8_queue, .int (i32 m_divided), .ref aX8_divisors, .ref aX8_least, .long (i64 m_pairOne), .long (i64 m_pairTwo), .long (i64 m_sumUp), .long (i64 m_sumDown)]))] ∧ r64 r0 ∧ r64 m_sumUp ∧ r64 m_sumDown ∧ Q r0 m_sumUp m_sumDown
def wp_X8_rising_26 (Q : Int → Int → Int → Prop) (m_sumUp : Int) (m_sumDown : Int) : Prop := Q (-1) m_sumUp m_sumDown
set_option maxHeartbeats 4000000 in
set_option maxRecDepth 100000 in
theorem s_X8_rising_26 {X : Cx} (g : Gd X cX8_rising RX8 (some .long) 3) (hR : X.R = rmL 3 0 0) (hX8 : Nat) (aX8_ups : Nat) (aX8_downs : Nat) (m_many : Int) (aX8_row : Nat) (m_isSpent : Int) (m_found : Int) (aX8_sumMany : Nat) (aX8_sumShares : Nat) (aX8_sumSet : Nat) (aX8_taken : Nat) (aX8_restUp : Nat) (aX8_restDown : Nat) (m_fewest : Int) (m_wishes : Int) (aX8_wished : Nat) (aX8_far : Nat) (aX8_queue : Nat) (m_divided : Int) (aX8_divisors : Nat) (aX8_least : Nat) (m_pairOne : Int) (m_pairTwo : Int) (Q : Int → Int → Int → Prop) (hF : FQ X 0 0 (po_X8_rising X.cI X.cJ hX8 aX8_ups aX8_downs m_many aX8_row m_isSpent m_found aX8_sumMany aX8_sumShares aX8_sumSet aX8_taken aX8_restUp aX8_restDown m_fewest m_wishes aX8_wished aX8_far aX8_queue m_divided aX8_divisors aX8_least m_pairOne m_pairTwo Q)) : ∀ (m_sumUp : Int) (m_sumDown : Int), r64 m_sumUp → r64 m_sumDown → wp_X8_rising_26 Q m_sumUp m_sumDown → Wat X 0 0 26 [] [] [(hX8, .inr (7, [.ref aX8_ups, .ref aX8_downs, .int (i32 m_many), .ref aX8_row, .int (i32 m_isSpent), .int (i32 m_found), .ref aX8_sumMany, .ref aX8_sumShares, .ref aX8_sumSet, .ref aX8_taken, .ref aX8_restUp, .ref aX8_restDown, .int (i32 m_fewest), .int (i32 m_wishes), .ref aX8_wished, .ref aX8_far, .ref aX8_queue, .int (i32 m_divided), .ref aX8_divisors, .ref aX8_least, .long (i64 m_pairOne), .long (i64 m_pairTwo), .long (i64 m_sumUp), .long (i64 m_sumDown)]))] := by
  intro m_sumUp m_sumDown r_m_sumUp r_m_sumDown h
  rw [wp_X8_rising_26] at h
  refine q_ldc2 (w := (-1)) g 133 (-1) (by decide +kernel) wL_X8_133 dX8_rising_26 ?_
  exact q_lret g hF ⟨(-1), m_sumUp, m_sumDown, rfl, rfl, (r64_lit _ (by decide)), r_m_sumUp, r_m_sumDown, h⟩ dX8_rising_29
def wp_X8_rising_72 (Q : Int → Int → Int → Prop) (m_sumUp : Int) (m_sumDown : Int) (k0 : Int) : Prop := Q k0 m_sumUp m_sumDown
set_option maxHeartbeats 4000000 in
set_option maxRecDepth 100000 in
theorem s_X8_rising_72 {X : Cx} (g : Gd X cX8_rising RX8 (some .long) 3) (hR : X.R = rmL 3 0 0) (hX8 : Nat) (aX8_ups : Nat) (aX8_downs : Nat) (m_many : Int) (aX8_row : Nat) (m_isSpent : Int) (m_found : Int) (aX8_sumMany : Nat) (aX8_sumShares : Nat) (aX8_sumSet : Nat) (aX8_taken : Nat) (aX8_restUp : Nat) (aX8_restDown : Nat) (m_fewest : Int) (m_wishes : Int) (aX8_wished : Nat) (aX8_far : Nat) (aX8_queue : Nat) (m_divided : Int) (aX8_divisors : Nat) (aX8_least : Nat) (m_pairOne : Int) (m_pairTwo : Int) (Q : Int → Int → Int → Prop) (hF : FQ X 0 0 (po_X8_rising X.cI X.cJ hX8 aX8_ups aX8_downs m_many aX8_row m_isSpent m_found aX8_sumMany aX8_sumShares aX8_sumSet aX8_taken aX8_restUp aX8_restDown m_fewest m_wishes aX8_wished aX8_far aX8_queue m_divided aX8_divisors aX8_least m_pairOne m_pairTwo Q)) : ∀ (m_sumUp : Int) (m_sumDown : Int) (k0 : Int), r64 m_sumUp → r64 m_sumDown → r64 k0 → wp_X8_rising_72 Q m_sumUp m_sumDown k0 → Wat X 0 0 72 [] [.long (i64 k0)] [(hX8, .inr (7, [.ref aX8_ups, .ref aX8_downs, .int (i32 m_many), .ref aX8_row, .int (i32 m_isSpent), .int (i32 m_found), .ref aX8_sumMany, .ref aX8_sumShares, .ref aX8_sumSet, .ref aX8_taken, .ref aX8_restUp, .ref aX8_restDown, .int (i32 m_fewest), .int (i32 m_wishes), .ref aX8_wished, .ref aX8_far, .ref aX8_queue, .int (i32 m_divided), .ref aX8_divisors, .ref aX8_least, .long (i64 m_pairOne), .long (i64 m_pairTwo), .long (i64 m_sumUp), .long (i64 m_sumDown)]))] := by
  intro m_sumUp m_sumDown k0 r_m_sumUp r_m_sumDown r_k0 h
  rw [wp_X8_rising_72] at h
  exact q_lret g hF ⟨k0, m_sumUp, m_sumDown, rfl, rfl, r_k0, r_m_sumUp, r_m_sumDown, h⟩ dX8_rising_72
def wp_X8_rising (Q : Int → Int → Int → Prop) (m_sumUp : Int) (m_sumDown : Int) (l1 : Int) (l2 : Int) : Prop := wp_X8_in (fun (x8 : Int) => ((x8 = 0 → wp_X8_rising_26 Q m_sumUp m_sumDown) ∧
  (¬ (x8 = 0) → wp_X8_in (fun (x20 : Int) => ((¬ x20 = 0 → wp_X8_rise (fun (m_sumUp_32 : Int) (m_sumDown_32 : Int) => ((¬ l2 = 0 → ((¬ l2 = 1 → wp_X8_rising_72 Q m_sumUp_32 m_sumDown_32 m_sumDown_32) ∧
  (l2 = 1 → (0 < m_sumDown_32 ∧ wp_X8_rising_72 Q m_sumUp_32 m_sumDown_32 (m_sumUp_32.tmod m_sumDown_32))))) ∧
  (l2 = 0 → (0 < m_sumDown_32 ∧ wp_X8_rising_72 Q m_sumUp_32 m_sumDown_32 (m_sumUp_32.tdiv m_sumDown_32))))) m_sumUp m_sumDown l1) ∧
  (x20 = 0 → wp_X8_rising_26 Q m_sumUp m_sumDown))) l2 0 2))) l1 2 30
set_option maxHeartbeats 4000000 in
set_option maxRecDepth 100000 in
theorem c_X8_rising (l : Launch) (D : va_G) (cI cJ : ClassId) (zt : Nat) (hX8 : Nat) (aX8_ups : Nat) (aX8_downs : Nat) (m_many : Int) (aX8_row : Nat) (m_isSpent : Int) (m_found : Int) (aX8_sumMany : Nat) (aX8_sumShares : Nat) (aX8_sumSet : Nat) (aX8_taken : Nat) (aX8_restUp : Nat) (aX8_restDown : Nat) (m_fewest : Int) (m_wishes : Int) (aX8_wished : Nat) (aX8_far : Nat) (aX8_queue : Nat) (m_divided : Int) (aX8_divisors : Nat) (aX8_least : Nat) (m_pairOne : Int) (m_pairTwo : Int) (m_sumUp : Int) (m_sumDown : Int) (l1 : Int) (l2 : Int) (Q : Int → Int → Int → Prop) (r_m_sumUp : r64 m_sumUp) (r_m_sumDown : r64 m_sumDown) (r_l1 : r32 l1) (r_l2 : r32 l2) (h : wp_X8_rising Q m_sumUp m_sumDown l1 l2) : Ct l D cI cJ zt yX8_rising cX8_rising 3 (some .long) 3 0 0 [.ref hX8, .int (i32 l1), .int (i32 l2)] [(hX8, .inr (7, [.ref aX8_ups, .ref aX8_downs, .int (i32 m_many), .ref aX8_row, .int (i32 m_isSpent), .int (i32 m_found), .ref aX8_sumMany, .ref aX8_sumShares, .ref aX8_sumSet, .ref aX8_taken, .ref aX8_restUp, .ref aX8_restDown, .int (i32 m_fewest), .int (i32 m_wishes), .ref aX8_wished, .ref aX8_far, .ref aX8_queue, .int (i32 m_divided), .ref aX8_divisors, .ref aX8_least, .long (i64 m_pairOne), .long (i64 m_pairTwo), .long (i64 m_sumUp), .long (i64 m_sumDown)]))] (po_X8_rising cI cJ hX8 aX8_ups aX8_downs m_many aX8_row m_isSpent m_found aX8_sumMany aX8_sumShares aX8_sumSet aX8_taken aX8_restUp aX8_restDown m_fewest m_wishes aX8_wished aX8_far aX8_queue m_divided aX8_divisors aX8_least m_pairOne m_pairTwo Q) := by
  refine ct_of (by decide +kernel) (Nat.le_of_ble_eq_true rfl) (fun X hl hDD hcI hcJ hzt hR hF hnm g => ?_)
  subst hl; subst hDD; subst hcI; subst hcJ; subst hzt
  show Wat X 0 0 0 [(0, .ref hX8), (1, .int (i32 l1)), (2, .int (i32 l2))] [] [(hX8, .inr (7, [.ref aX8_ups, .ref aX8_downs, .int (i32 m_many), .ref aX8_row, .int (i32 m_isSpent), .int (i32 m_found), .ref aX8_sumMany, .ref aX8_sumShares, .ref aX8_sumSet, .ref aX8_taken, .ref aX8_restUp, .ref aX8_restDown, .int (i32 m_fewest), .int (i32 m_wishes), .ref aX8_wished, .ref aX8_far, .ref aX8_queue, .int (i32 m_divided), .ref aX8_divisors, .ref aX8_least, .long (i64 m_pairOne), .long (i64 m_pairTwo), .long (i64 m_sumUp), .long (i64 m_sumDown)]))]
  replace g : Gd X cX8_rising RX8 (some .long) 3 := g
  rw [wp_X8_rising] at h
  refine q_iload_n g 1 1 rfl dX8_rising_0 ?_
  refine q_i2l g r_l1 dX8_rising_1 ?_
  refine q_ldc2 (w := 2) g 89 (2) (by decide +kernel) wL_X8_89 dX8_rising_2 ?_
  refine q_ldc2 (w := 30) g 222 (30) (by decide +kernel) wL_X8_222 dX8_rising_5 ?_
  refine q_callS (lev := 1) (mc := 0) (ms := 0) (As := [.long (i64 l1), .long (i64 2), .long (i64 30)]) g 60 (c_X8_in X.l X.D X.cI X.cJ X.zt l1 2 30 _ (r32_64 r_l1) (r64_lit _ (by decide)) (r64_lit _ (by decide)) h) (wr := [(hX8, .inr (7, [.ref aX8_ups, .ref aX8_downs, .int (i32 m_many), .ref aX8_row, .int (i32 m_isSpent), .int (i32 m_found), .ref aX8_sumMany, .ref aX8_sumShares, .ref aX8_sumSet, .ref aX8_taken, .ref aX8_restUp, .ref aX8_restDown, .int (i32 m_fewest), .int (i32 m_wishes), .ref aX8_wished, .ref aX8_far, .ref aX8_queue, .int (i32 m_divided), .ref aX8_divisors, .ref aX8_least, .long (i64 m_pairOne), .long (i64 m_pairTwo), .long (i64 m_sumUp), .long (i64 m_sumDown)]))]) [] [0] rfl rfl rfl (by decide) (by decide) (by decide) wM_X8_60 wT_X8_in wZ_X8 wC_X8_in 3 rfl (by decide +kernel) (by rw [hR]; exact ⟨by show 1 + 1 ≤ 3; omega, by show 8 + (6 + 11) + 100 * 1 ≤ 100 * 3; omega⟩) (by rw [hR]; exact ⟨Nat.le_refl _, Nat.le_refl _⟩) (Nat.le_of_ble_eq_true rfl) rfl dX8_rising_8 (fun rv w1 hq => ?_)
  obtain ⟨x8, rfl, rfl, rx8, h⟩ := hq
  show Wat X 0 0 11 [(0, .ref hX8), (1, .int (i32 l1)), (2, .int (i32 l2))] [.int (i32 x8)] [(hX8, .inr (7, [.ref aX8_ups, .ref aX8_downs, .int (i32 m_many), .ref aX8_row, .int (i32 m_isSpent), .int (i32 m_found), .ref aX8_sumMany, .ref aX8_sumShares, .ref aX8_sumSet, .ref aX8_taken, .ref aX8_restUp, .ref aX8_restDown, .int (i32 m_fewest), .int (i32 m_wishes), .ref aX8_wished, .ref aX8_far, .ref aX8_queue, .int (i32 m_divided), .ref aX8_divisors, .ref aX8_least, .long (i64 m_pairOne), .long (i64 m_pairTwo), .long (i64 m_sumUp), .long (i64 m_sumDown)]))]
  refine q_if_eq g (15) 26 rx8 (by decide) dX8_rising_11 (fun b11 => ?_) (fun b11 => ?_)
  · replace h := h.1 b11
    refine q_lv (lv' := []) [] rfl ?_
    exact s_X8_rising_26 g hR hX8 aX8_ups aX8_downs m_many aX8_row m_isSpent m_found aX8_sumMany aX8_sumShares aX8_sumSet aX8_taken aX8_restUp aX8_restDown m_fewest m_wishes aX8_wished aX8_far aX8_queue m_divided aX8_divisors aX8_least m_pairOne m_pairTwo Q hF m_sumUp m_sumDown r_m_sumUp r_m_sumDown h
  replace h := h.2 b11
  refine q_iload_n g 2 2 rfl dX8_rising_14 ?_
  refine q_i2l g r_l2 dX8_rising_15 ?_
  refine q_lconst g 0 0 rfl dX8_rising_16 ?_
  refine q_ldc2 (w := 2) g 89 (2) (by decide +kernel) wL_X8_89 dX8_rising_17 ?_
  refine q_callS (lev := 1) (mc := 0) (ms := 0) (As := [.long (i64 l2), .long (i64 0), .long (i64 2)]) g 60 (c_X8_in X.l X.D X.cI X.cJ X.zt l2 0 2 _ (r32_64 r_l2) (r64_lit _ (by decide)) (r64_lit _ (by decide)) h) (wr := [(hX8, .inr (7, [.ref aX8_ups, .ref aX8_downs, .int (i32 m_many), .ref aX8_row, .int (i32 m_isSpent), .int (i32 m_found), .ref aX8_sumMany, .ref aX8_sumShares, .ref aX8_sumSet, .ref aX8_taken, .ref aX8_restUp, .ref aX8_restDown, .int (i32 m_fewest), .int (i32 m_wishes), .ref aX8_wished, .ref aX8_far, .ref aX8_queue, .int (i32 m_divided), .ref aX8_divisors, .ref aX8_least, .long (i64 m_pairOne), .long (i64 m_pairTwo), .long (i64 m_sumUp), .long (i64 m_sumDown)]))]) [] [0] rfl rfl rfl (by decide) (by decide) (by decide) wM_X8_60 wT_X8_in wZ_X8 wC_X8_in 3 rfl (by decide +kernel) (by rw [hR]; exact ⟨by show 1 + 1 ≤ 3; omega, by show 8 + (6 + 11) + 100 * 1 ≤ 100 * 3; omega⟩) (by rw [hR]; exact ⟨Nat.le_refl _, Nat.le_refl _⟩) (Nat.le_of_ble_eq_true rfl) rfl dX8_rising_20 (fun rv w1 hq => ?_)
  obtain ⟨x20, rfl, rfl, rx20, h⟩ := hq
  show Wat X 0 0 23 [(0, .ref hX8), (1, .int (i32 l1)), (2, .int (i32 l2))] [.int (i32 x20)] [(hX8, .inr (7, [.ref aX8_ups, .ref aX8_downs, .int (i32 m_many), .ref aX8_row, .int (i32 m_isSpent), .int (i32 m_found), .ref aX8_sumMany, .ref aX8_sumShares, .ref aX8_sumSet, .ref aX8_taken, .ref aX8_restUp, .ref aX8_restDown, .int (i32 m_fewest), .int (i32 m_wishes), .ref aX8_wished, .ref aX8_far, .ref aX8_queue, .int (i32 m_divided), .ref aX8_divisors, .ref aX8_least, .long (i64 m_pairOne), .long (i64 m_pairTwo), .long (i64 m_sumUp), .long (i64 m_sumDown)]))]
  refine q_if_ne g (7) 30 rx20 (by decide) dX8_rising_23 (fun b23 => ?_) (fun b23 => ?_)
  · replace h := h.1 b23
    refine q_aload_n g 0 0 rfl dX8_rising_30 ?_
    refine q_iload_n g 1 1 rfl dX8_rising_31 ?_
    refine q_callV (lev := 2) (mc := 0) (ms := 0) g 224 (c_X8_rise X.l X.D X.cI X.cJ X.zt hX8 aX8_ups aX8_downs m_many aX8_row m_isSpent m_found aX8_sumMany aX8_sumShares aX8_sumSet aX8_taken aX8_restUp aX8_restDown m_fewest m_wishes aX8_wished aX8_far aX8_queue m_divided aX8_divisors aX8_least m_pairOne m_pairTwo m_sumUp m_sumDown l1 _ r_m_sumUp r_m_sumDown r_l1 h) (wr := []) [0] [] rfl rfl rfl (by decide) (by decide) (by decide) (ci := 7) rfl rfl rfl wM_X8_224 wI_X8_rise wS_X8_rise wZ_X8 wC_X8_rise 1 rfl (by decide +kernel) (by rw [hR]; exact ⟨by show 2 + 1 ≤ 3; omega, by show 8 + (5 + 11) + 100 * 2 ≤ 100 * 3; omega⟩) (by rw [hR]; exact ⟨Nat.le_refl _, Nat.le_refl _⟩) (Nat.le_of_ble_eq_true rfl) rfl dX8_rising_32 (fun rv w1 hq => ?_)
    obtain ⟨m_sumUp_32, m_sumDown_32, rfl, rfl, rm_sumUp_32, rm_sumDown_32, h⟩ := hq
    show Wat X 0 0 35 [(0, .ref hX8), (1, .int (i32 l1)), (2, .int (i32 l2))] [] [(hX8, .inr (7, [.ref aX8_ups, .ref aX8_downs, .int (i32 m_many), .ref aX8_row, .int (i32 m_isSpent), .int (i32 m_found), .ref aX8_sumMany, .ref aX8_sumShares, .ref aX8_sumSet, .ref aX8_taken, .ref aX8_restUp, .ref aX8_restDown, .int (i32 m_fewest), .int (i32 m_wishes), .ref aX8_wished, .ref aX8_far, .ref aX8_queue, .int (i32 m_divided), .ref aX8_divisors, .ref aX8_least, .long (i64 m_pairOne), .long (i64 m_pairTwo), .long (i64 m_sumUp_32), .long (i64 m_sumDown_32)]))]
    refine q_iload_n g 2 2 rfl dX8_rising_35 ?_
    refine q_if_ne g (15) 51 r_l2 (by decide) dX8_rising_36 (fun b36 => ?_) (fun b36 => ?_)
    · replace h := h.1 b36
      refine q_iload_n g 2 2 rfl dX8_rising_51 ?_
      refine q_iconst g (1) dX8_rising_52 ?_
      refine q_icmp_ne g (15) 68 r_l2 (r32_lit _ (by decide)) (by decide) dX8_rising_53 (fun b53 => ?_) (fun b53 => ?_)
      · replace h := h.1 b53
        refine q_aload_n g 0 0 rfl dX8_rising_68 ?_
        refine q_get (C := RX8) (T := TX8) (N := 24) g 219 inX8 0 23 rfl rfl (by decide) wF_X8_219 rfl dX8_rising_69 ?_
        refine q_lv (lv' := []) [] rfl ?_
        exact s_X8_rising_72 g hR hX8 aX8_ups aX8_downs m_many aX8_row m_isSpent m_found aX8_sumMany aX8_sumShares aX8_sumSet aX8_taken aX8_restUp aX8_restDown m_fewest m_wishes aX8_wished aX8_far aX8_queue m_divided aX8_divisors aX8_least m_pairOne m_pairTwo Q hF m_sumUp_32 m_sumDown_32 m_sumDown_32 rm_sumUp_32 rm_sumDown_32 rm_sumDown_32 h
      replace h := h.2 b53
      refine q_aload_n g 0 0 rfl dX8_rising_56 ?_
      refine q_get (C := RX8) (T := TX8) (N := 24) g 216 inX8 0 22 rfl rfl (by decide) wF_X8_216 rfl dX8_rising_57 ?_
      refine q_aload_n g 0 0 rfl dX8_rising_60 ?_
      refine q_get (C := RX8) (T := TX8) (N := 24) g 219 inX8 0 23 rfl rfl (by decide) wF_X8_219 rfl dX8_rising_61 ?_
      obtain ⟨c64, h⟩ := h
      refine q_lrem g rm_sumUp_32 rm_sumDown_32 (ne_of_pos c64) dX8_rising_64 ?_
      refine q_goto g (7) 72 (by decide) dX8_rising_65 ?_
      refine q_lv (lv' := []) [] rfl ?_
      exact s_X8_rising_72 g hR hX8 aX8_ups aX8_downs m_many aX8_row m_isSpent m_found aX8_sumMany aX8_sumShares aX8_sumSet aX8_taken aX8_restUp aX8_restDown m_fewest m_wishes aX8_wished aX8_far aX8_queue m_divided aX8_divisors aX8_least m_pairOne m_pairTwo Q hF m_sumUp_32 m_sumDown_32 (m_sumUp_32.tmod m_sumDown_32) rm_sumUp_32 rm_sumDown_32 (r64_tmod rm_sumUp_32 rm_sumDown_32 (ne_of_pos c64)) h
    replace h := h.2 b36
    refine q_aload_n g 0 0 rfl dX8_rising_39 ?_
    refine q_get (C := RX8) (T := TX8) (N := 24) g 216 inX8 0 22 rfl rfl (by decide) wF_X8_216 rfl dX8_rising_40 ?_
    refine q_aload_n g 0 0 rfl dX8_rising_43 ?_
    refine q_get (C := RX8) (T := TX8) (N := 24) g 219 inX8 0 23 rfl rfl (by decide) wF_X8_219 rfl dX8_rising_44 ?_
    obtain ⟨c47, h⟩ := h
    refine q_ldiv g rm_sumUp_32 rm_sumDown_32 (ne_of_pos c47) dX8_rising_47 ?_
    refine q_goto g (24) 72 (by decide) dX8_rising_48 ?_
    refine q_lv (lv' := []) [] rfl ?_
    exact s_X8_rising_72 g hR hX8 aX8_ups aX8_downs m_many aX8_row m_isSpent m_found aX8_sumMany aX8_sumShares aX8_sumSet aX8_taken aX8_restUp aX8_restDown m_fewest m_wishes aX8_wished aX8_far aX8_queue m_divided aX8_divisors aX8_least m_pairOne m_pairTwo Q hF m_sumUp_32 m_sumDown_32 (m_sumUp_32.tdiv m_sumDown_32) rm_sumUp_32 rm_sumDown_32 (r64_tdiv rm_sumUp_32 c47) h
  replace h := h.2 b23
  refine q_lv (lv' := []) [] rfl ?_
  exact s_X8_rising_26 g hR hX8 aX8_ups aX8_downs m_many aX8_row m_isSpent m_found aX8_sumMany aX8_sumShares aX8_sumSet aX8_taken aX8_restUp aX8_restDown m_fewest m_wishes aX8_wished aX8_far aX8_queue m_divided aX8_divisors aX8_least m_pairOne m_pairTwo Q hF m_sumUp m_sumDown r_m_sumUp r_m_sumDown h
theorem dX8_road_0 : decode cX8_road 0 = .ok (.iload_n 1, 1) := by decide +kernel
theorem dX8_road_1 : decode cX8_road 1 = .ok (.invokestatic 126, 3) := by decide +kernel
theorem dX8_road_4 : decode cX8_road 4 = .ok (.ifCond .eq 10, 3) := by decide +kernel
theorem dX8_road_7 : decode cX8_road 7 = .ok (.iload_n 2, 1) := by decide +kernel
theorem dX8_road_8 : decode cX8_road 8 = .ok (.invokestatic 68, 3) := by decide +kernel
theorem dX8_road_11 : decode cX8_road 11 = .ok (.ifCond .ne 5, 3) := by decide +kernel
theorem dX8_road_14 : decode cX8_road 14 = .ok (.iconst (-1), 1) := by decide +kernel
theorem dX8_road_15 : decode cX8_road 15 = .ok (.ireturn, 1) := by decide +kernel
theorem dX8_road_16 : decode cX8_road 16 = .ok (.aload_n 0, 1) := by decide +kernel
theorem dX8_road_17 : decode cX8_road 17 = .ok (.iload_n 1, 1) := by decide +kernel
theorem dX8_road_18 : decode cX8_road 18 = .ok (.aload_n 0, 1) := by decide +kernel
theorem dX8_road_19 : decode cX8_road 19 = .ok (.getfield 7, 3) := by decide +kernel
theorem dX8_road_22 : decode cX8_road 22 = .ok (.iload_n 2, 1) := by decide +kernel
theorem dX8_road_23 : decode cX8_road 23 = .ok (.iaload, 1) := by decide +kernel
theorem dX8_road_24 : decode cX8_road 24 = .ok (.i2l, 1) := by decide +kernel
theorem dX8_road_25 : decode cX8_road 25 = .ok (.aload_n 0, 1) := by decide +kernel
theorem dX8_road_26 : decode cX8_road 26 = .ok (.getfield 13, 3) := by decide +kernel
theorem dX8_road_29 : decode cX8_road 29 = .ok (.iload_n 2, 1) := by decide +kernel
theorem dX8_road_30 : decode cX8_road 30 = .ok (.iaload, 1) := by decide +kernel
theorem dX8_road_31 : decode cX8_road 31 = .ok (.i2l, 1) := by decide +kernel
theorem dX8_road_32 : decode cX8_road 32 = .ok (.invokevirtual 129, 3) := by decide +kernel
theorem dX8_road_35 : decode cX8_road 35 = .ok (.ireturn, 1) := by decide +kernel
abbrev po_X8_road (cI cJ : ClassId) (hX8 : Nat) (aX8_ups : Nat) (aX8_downs : Nat) (aX8_row : Nat) (m_found : Int) (aX8_sumMany : Nat) (aX8_sumShares : Nat) (aX8_sumSet : Nat) (aX8_taken : Nat) (aX8_restUp : Nat) (aX8_restDown : Nat) (m_fewest : Int) (m_wishes : Int) (aX8_wished : Nat) (aX8_far : Nat) (aX8_queue : Nat) (m_divided : Int) (aX8_divisors : Nat) (aX8_least : Nat) (m_pairOne : Int) (m_pairTwo : Int) (m_sumUp : Int) (m_sumDown : Int) (m_ups : Int → Int) (m_downs : Int → Int) (Q : Int → Int → (Int → Int) → Int → Prop) : Option Value → va_W → Prop := fun rv w1 => ∃ (r0 : Int) (m_many : Int) (m_row : Int → Int) (m_isSpent : Int), rv = some (.int (i32 r0)) ∧ w1 = [(hX8, .inr (7, [.ref aX8_ups, .ref aX8_downs, .int (i32 m_many), .ref aX8_row, .int (i32 m_isSpent), .int (i32 m_found), .ref aX8_sumMany, .ref aX8_sumShares, .ref aX8_sumSet, .ref aX8_taken, .ref aX8_restUp, .ref aX8_restDown, .int (i32 m_fewest), .int (i32 m_wishes), .ref aX8_wished, .ref aX8_far, .ref aX8_queue, .int (i32 m_divided), .ref aX8_divisors, .ref aX8_least, .long (i64 m_pairOne), .long (i64 m_pairTwo), .long (i64 m_sumUp), .long (i64 m_sumDown)])), (aX8_ups, aI cI 8 m_ups), (aX8_downs, aI cI 8 m_downs), (aX8_row, aL cJ 17 m_row)] ∧ r32 r0 ∧ r32 m_many ∧ rr64 m_row ∧ r32 m_isSpent ∧ Q r0 m_many m_row m_isSpent
def wp_X8_road_14 (Q : Int → Int → (Int → Int) → Int → Prop) (m_ups : Int → Int) (m_downs : Int → Int) (m_many : Int) (m_row : Int → Int) (m_isSpent : Int) : Prop := Q (-1) m_many m_row m_isSpent
set_option maxHeartbeats 4000000 in
set_option maxRecDepth 100000 in
theorem s_X8_road_14 {X : Cx} (g : Gd X cX8_road RX8 (some .int) 3) (hR : X.R = rmL 4 0 0) (hX8 : Nat) (aX8_ups : Nat) (aX8_downs : Nat) (aX8_row : Nat) (m_found : Int) (aX8_sumMany : Nat) (aX8_sumShares : Nat) (aX8_sumSet : Nat) (aX8_taken : Nat) (aX8_restUp : Nat) (aX8_restDown : Nat) (m_fewest : Int) (m_wishes : Int) (aX8_wished : Nat) (aX8_far : Nat) (aX8_queue : Nat) (m_divided : Int) (aX8_divisors : Nat) (aX8_least : Nat) (m_pairOne : Int) (m_pairTwo : Int) (m_sumUp : Int) (m_sumDown : Int) (m_ups : Int → Int) (m_downs : Int → Int) (r_m_ups : rr32 m_ups) (r_m_downs : rr32 m_downs) (Q : Int → Int → (Int → Int) → Int → Prop) (hF : FQ X 0 0 (po_X8_road X.cI X.cJ hX8 aX8_ups aX8_downs aX8_row m_found aX8_sumMany aX8_sumShares aX8_sumSet aX8_taken aX8_restUp aX8_restDown m_fewest m_wishes aX8_wished aX8_far aX8_queue m_divided aX8_divisors aX8_least m_pairOne m_pairTwo m_sumUp m_sumDown m_ups m_downs Q)) : ∀ (m_many : Int) (m_row : Int → Int) (m_isSpent : Int), r32 m_many → rr64 m_row → r32 m_isSpent → wp_X8_road_14 Q m_ups m_downs m_many m_row m_isSpent → Wat X 0 0 14 [] [] [(hX8, .inr (7, [.ref aX8_ups, .ref aX8_downs, .int (i32 m_many), .ref aX8_row, .int (i32 m_isSpent), .int (i32 m_found), .ref aX8_sumMany, .ref aX8_sumShares, .ref aX8_sumSet, .ref aX8_taken, .ref aX8_restUp, .ref aX8_restDown, .int (i32 m_fewest), .int (i32 m_wishes), .ref aX8_wished, .ref aX8_far, .ref aX8_queue, .int (i32 m_divided), .ref aX8_divisors, .ref aX8_least, .long (i64 m_pairOne), .long (i64 m_pairTwo), .long (i64 m_sumUp), .long (i64 m_sumDown)])), (aX8_ups, aI X.cI 8 m_ups), (aX8_downs, aI X.cI 8 m_downs), (aX8_row, aL X.cJ 17 m_row)] := by
  intro m_many m_row m_isSpent r_m_many r_m_row r_m_isSpent h
  rw [wp_X8_road_14] at h
  refine q_iconst g (-1) dX8_road_14 ?_
  exact q_iret g hF ⟨(-1), m_many, m_row, m_isSpent, rfl, rfl, (r32_lit _ (by decide)), r_m_many, r_m_row, r_m_isSpent, h⟩ dX8_road_15
def wp_X8_road (Q : Int → Int → (Int → Int) → Int → Prop) (m_ups : Int → Int) (m_downs : Int → Int) (m_many : Int) (m_row : Int → Int) (m_isSpent : Int) (l1 : Int) (l2 : Int) : Prop := wp_X8_isRoad (fun (x1 : Int) => ((x1 = 0 → wp_X8_road_14 Q m_ups m_downs m_many m_row m_isSpent) ∧
  (¬ (x1 = 0) → wp_X8_isRegister (fun (x8 : Int) => ((¬ x8 = 0 → (0 ≤ l2 ∧ l2 < 8 ∧ 0 ≤ l2 ∧ l2 < 8 ∧ wp_X8_goRoad (fun (x32 : Int) (m_many_32 : Int) (m_row_32 : Int → Int) (m_isSpent_32 : Int) => Q x32 m_many_32 m_row_32 m_isSpent_32) m_many m_row m_isSpent l1 (m_ups l2) (m_downs l2))) ∧
  (x8 = 0 → wp_X8_road_14 Q m_ups m_downs m_many m_row m_isSpent))) l2))) l1
set_option maxHeartbeats 4000000 in
set_option maxRecDepth 100000 in
theorem c_X8_road (l : Launch) (D : va_G) (cI cJ : ClassId) (zt : Nat) (hX8 : Nat) (aX8_ups : Nat) (aX8_downs : Nat) (m_many : Int) (aX8_row : Nat) (m_isSpent : Int) (m_found : Int) (aX8_sumMany : Nat) (aX8_sumShares : Nat) (aX8_sumSet : Nat) (aX8_taken : Nat) (aX8_restUp : Nat) (aX8_restDown : Nat) (m_fewest : Int) (m_wishes : Int) (aX8_wished : Nat) (aX8_far : Nat) (aX8_queue : Nat) (m_divided : Int) (aX8_divisors : Nat) (aX8_least : Nat) (m_pairOne : Int) (m_pairTwo : Int) (m_sumUp : Int) (m_sumDown : Int) (m_ups : Int → Int) (m_downs : Int → Int) (m_row : Int → Int) (l1 : Int) (l2 : Int) (Q : Int → Int → (Int → Int) → Int → Prop) (r_m_ups : rr32 m_ups) (r_m_downs : rr32 m_downs) (r_m_many : r32 m_many) (r_m_row : rr64 m_row) (r_m_isSpent : r32 m_isSpent) (r_l1 : r32 l1) (r_l2 : r32 l2) (h : wp_X8_road Q m_ups m_downs m_many m_row m_isSpent l1 l2) : Ct l D cI cJ zt yX8_road cX8_road 3 (some .int) 4 0 0 [.ref hX8, .int (i32 l1), .int (i32 l2)] [(hX8, .inr (7, [.ref aX8_ups, .ref aX8_downs, .int (i32 m_many), .ref aX8_row, .int (i32 m_isSpent), .int (i32 m_found), .ref aX8_sumMany, .ref aX8_sumShares, .ref aX8_sumSet, .ref aX8_taken, .ref aX8_restUp, .ref aX8_restDown, .int (i32 m_fewest), .int (i32 m_wishes), .ref aX8_wished, .ref aX8_far, .ref aX8_queue, .int (i32 m_divided), .ref aX8_divisors, .ref aX8_least, .long (i64 m_pairOne), .long (i64 m_pairTwo), .long (i64 m_sumUp), .long (i64 m_sumDown)])), (aX8_ups, aI cI 8 m_ups), (aX8_downs, aI cI 8 m_downs), (aX8_row, aL cJ 17 m_row)] (po_X8_road cI cJ hX8 aX8_ups aX8_downs aX8_row m_found aX8_sumMany aX8_sumShares aX8_sumSet aX8_taken aX8_restUp aX8_restDown m_fewest m_wishes aX8_wished aX8_far aX8_queue m_divided aX8_divisors aX8_least m_pairOne m_pairTwo m_sumUp m_sumDown m_ups m_downs Q) := by
  refine ct_of (by decide +kernel) (Nat.le_of_ble_eq_true rfl) (fun X hl hDD hcI hcJ hzt hR hF hnm g => ?_)
  subst hl; subst hDD; subst hcI; subst hcJ; subst hzt
  show Wat X 0 0 0 [(0, .ref hX8), (1, .int (i32 l1)), (2, .int (i32 l2))] [] [(hX8, .inr (7, [.ref aX8_ups, .ref aX8_downs, .int (i32 m_many), .ref aX8_row, .int (i32 m_isSpent), .int (i32 m_found), .ref aX8_sumMany, .ref aX8_sumShares, .ref aX8_sumSet, .ref aX8_taken, .ref aX8_restUp, .ref aX8_restDown, .int (i32 m_fewest), .int (i32 m_wishes), .ref aX8_wished, .ref aX8_far, .ref aX8_queue, .int (i32 m_divided), .ref aX8_divisors, .ref aX8_least, .long (i64 m_pairOne), .long (i64 m_pairTwo), .long (i64 m_sumUp), .long (i64 m_sumDown)])), (aX8_ups, aI X.cI 8 m_ups), (aX8_downs, aI X.cI 8 m_downs), (aX8_row, aL X.cJ 17 m_row)]
  replace g : Gd X cX8_road RX8 (some .int) 3 := g
  rw [wp_X8_road] at h
  refine q_iload_n g 1 1 rfl dX8_road_0 ?_
  refine q_callS (lev := 2) (mc := 0) (ms := 0) (As := [.int (i32 l1)]) g 126 (c_X8_isRoad X.l X.D X.cI X.cJ X.zt l1 _ r_l1 h) (wr := [(hX8, .inr (7, [.ref aX8_ups, .ref aX8_downs, .int (i32 m_many), .ref aX8_row, .int (i32 m_isSpent), .int (i32 m_found), .ref aX8_sumMany, .ref aX8_sumShares, .ref aX8_sumSet, .ref aX8_taken, .ref aX8_restUp, .ref aX8_restDown, .int (i32 m_fewest), .int (i32 m_wishes), .ref aX8_wished, .ref aX8_far, .ref aX8_queue, .int (i32 m_divided), .ref aX8_divisors, .ref aX8_least, .long (i64 m_pairOne), .long (i64 m_pairTwo), .long (i64 m_sumUp), .long (i64 m_sumDown)])), (aX8_ups, aI X.cI 8 m_ups), (aX8_downs, aI X.cI 8 m_downs), (aX8_row, aL X.cJ 17 m_row)]) [] [0, 1, 2, 3] rfl rfl rfl (by decide) (by decide) (by decide) wM_X8_126 wT_X8_isRoad wZ_X8 wC_X8_isRoad 1 rfl (by decide +kernel) (by rw [hR]; exact ⟨by show 2 + 1 ≤ 4; omega, by show 8 + (1 + 11) + 100 * 2 ≤ 100 * 4; omega⟩) (by rw [hR]; exact ⟨Nat.le_refl _, Nat.le_refl _⟩) (Nat.le_of_ble_eq_true rfl) rfl dX8_road_1 (fun rv w1 hq => ?_)
  obtain ⟨x1, rfl, rfl, rx1, h⟩ := hq
  show Wat X 0 0 4 [(0, .ref hX8), (1, .int (i32 l1)), (2, .int (i32 l2))] [.int (i32 x1)] [(hX8, .inr (7, [.ref aX8_ups, .ref aX8_downs, .int (i32 m_many), .ref aX8_row, .int (i32 m_isSpent), .int (i32 m_found), .ref aX8_sumMany, .ref aX8_sumShares, .ref aX8_sumSet, .ref aX8_taken, .ref aX8_restUp, .ref aX8_restDown, .int (i32 m_fewest), .int (i32 m_wishes), .ref aX8_wished, .ref aX8_far, .ref aX8_queue, .int (i32 m_divided), .ref aX8_divisors, .ref aX8_least, .long (i64 m_pairOne), .long (i64 m_pairTwo), .long (i64 m_sumUp), .long (i64 m_sumDown)])), (aX8_ups, aI X.cI 8 m_ups), (aX8_downs, aI X.cI 8 m_downs), (aX8_row, aL X.cJ 17 m_row)]
  refine q_if_eq g (10) 14 rx1 (by decide) dX8_road_4 (fun b4 => ?_) (fun b4 => ?_)
  · replace h := h.1 b4
    refine q_lv (lv' := []) [] rfl ?_
    exact s_X8_road_14 g hR hX8 aX8_ups aX8_downs aX8_row m_found aX8_sumMany aX8_sumShares aX8_sumSet aX8_taken aX8_restUp aX8_restDown m_fewest m_wishes aX8_wished aX8_far aX8_queue m_divided aX8_divisors aX8_least m_pairOne m_pairTwo m_sumUp m_sumDown m_ups m_downs r_m_ups r_m_downs Q hF m_many m_row m_isSpent r_m_many r_m_row r_m_isSpent h
  replace h := h.2 b4
  refine q_iload_n g 2 2 rfl dX8_road_7 ?_
  refine q_callS (lev := 2) (mc := 0) (ms := 0) (As := [.int (i32 l2)]) g 68 (c_X8_isRegister X.l X.D X.cI X.cJ X.zt l2 _ r_l2 h) (wr := [(hX8, .inr (7, [.ref aX8_ups, .ref aX8_downs, .int (i32 m_many), .ref aX8_row, .int (i32 m_isSpent), .int (i32 m_found), .ref aX8_sumMany, .ref aX8_sumShares, .ref aX8_sumSet, .ref aX8_taken, .ref aX8_restUp, .ref aX8_restDown, .int (i32 m_fewest), .int (i32 m_wishes), .ref aX8_wished, .ref aX8_far, .ref aX8_queue, .int (i32 m_divided), .ref aX8_divisors, .ref aX8_least, .long (i64 m_pairOne), .long (i64 m_pairTwo), .long (i64 m_sumUp), .long (i64 m_sumDown)])), (aX8_ups, aI X.cI 8 m_ups), (aX8_downs, aI X.cI 8 m_downs), (aX8_row, aL X.cJ 17 m_row)]) [] [0, 1, 2, 3] rfl rfl rfl (by decide) (by decide) (by decide) wM_X8_68 wT_X8_isRegister wZ_X8 wC_X8_isRegister 1 rfl (by decide +kernel) (by rw [hR]; exact ⟨by show 2 + 1 ≤ 4; omega, by show 8 + (1 + 11) + 100 * 2 ≤ 100 * 4; omega⟩) (by rw [hR]; exact ⟨Nat.le_refl _, Nat.le_refl _⟩) (Nat.le_of_ble_eq_true rfl) rfl dX8_road_8 (fun rv w1 hq => ?_)
  obtain ⟨x8, rfl, rfl, rx8, h⟩ := hq
  show Wat X 0 0 11 [(0, .ref hX8), (1, .int (i32 l1)), (2, .int (i32 l2))] [.int (i32 x8)] [(hX8, .inr (7, [.ref aX8_ups, .ref aX8_downs, .int (i32 m_many), .ref aX8_row, .int (i32 m_isSpent), .int (i32 m_found), .ref aX8_sumMany, .ref aX8_sumShares, .ref aX8_sumSet, .ref aX8_taken, .ref aX8_restUp, .ref aX8_restDown, .int (i32 m_fewest), .int (i32 m_wishes), .ref aX8_wished, .ref aX8_far, .ref aX8_queue, .int (i32 m_divided), .ref aX8_divisors, .ref aX8_least, .long (i64 m_pairOne), .long (i64 m_pairTwo), .long (i64 m_sumUp), .long (i64 m_sumDown)])), (aX8_ups, aI X.cI 8 m_ups), (aX8_downs, aI X.cI 8 m_downs), (aX8_row, aL X.cJ 17 m_row)]
  refine q_if_ne g (5) 16 rx8 (by decide) dX8_road_11 (fun b11 => ?_) (fun b11 => ?_)
  · replace h := h.1 b11
    refine q_aload_n g 0 0 rfl dX8_road_16 ?_
    refine q_iload_n g 1 1 rfl dX8_road_17 ?_
    refine q_aload_n g 0 0 rfl dX8_road_18 ?_
    refine q_get (C := RX8) (T := TX8) (N := 24) g 7 inX8 0 0 rfl rfl (by decide) wF_X8_7 rfl dX8_road_19 ?_
    refine q_iload_n g 2 2 rfl dX8_road_22 ?_
    obtain ⟨c23, h⟩ := h
    obtain ⟨e23, h⟩ := h
    refine q_iald g 1 rfl c23 e23 (by decide) dX8_road_23 ?_
    refine q_i2l g (r_m_ups _) dX8_road_24 ?_
    refine q_aload_n g 0 0 rfl dX8_road_25 ?_
    refine q_get (C := RX8) (T := TX8) (N := 24) g 13 inX8 0 1 rfl rfl (by decide) wF_X8_13 rfl dX8_road_26 ?_
    refine q_iload_n g 2 2 rfl dX8_road_29 ?_
    obtain ⟨c30, h⟩ := h
    obtain ⟨e30, h⟩ := h
    refine q_iald g 2 rfl c30 e30 (by decide) dX8_road_30 ?_
    refine q_i2l g (r_m_downs _) dX8_road_31 ?_
    refine q_callV (lev := 3) (mc := 0) (ms := 0) g 129 (c_X8_goRoad X.l X.D X.cI X.cJ X.zt hX8 aX8_ups aX8_downs m_many aX8_row m_isSpent m_found aX8_sumMany aX8_sumShares aX8_sumSet aX8_taken aX8_restUp aX8_restDown m_fewest m_wishes aX8_wished aX8_far aX8_queue m_divided aX8_divisors aX8_least m_pairOne m_pairTwo m_sumUp m_sumDown m_row l1 (m_ups l2) (m_downs l2) _ r_m_many r_m_row r_m_isSpent r_l1 (r32_64 (r_m_ups _)) (r32_64 (r_m_downs _)) h) (wr := [(aX8_ups, aI X.cI 8 m_ups), (aX8_downs, aI X.cI 8 m_downs)]) [0, 3] [1, 2] rfl rfl rfl (by decide) (by decide) (by decide) (ci := 7) rfl rfl rfl wM_X8_129 wI_X8_goRoad wS_X8_goRoad wZ_X8 wC_X8_goRoad 3 rfl (by decide +kernel) (by rw [hR]; exact ⟨by show 3 + 1 ≤ 4; omega, by show 8 + (6 + 11) + 100 * 3 ≤ 100 * 4; omega⟩) (by rw [hR]; exact ⟨Nat.le_refl _, Nat.le_refl _⟩) (Nat.le_of_ble_eq_true rfl) rfl dX8_road_32 (fun rv w1 hq => ?_)
    obtain ⟨x32, m_many_32, m_row_32, m_isSpent_32, rfl, rfl, rx32, rm_many_32, rm_row_32, rm_isSpent_32, h⟩ := hq
    refine q_ws (ws' := [(hX8, .inr (7, [.ref aX8_ups, .ref aX8_downs, .int (i32 m_many_32), .ref aX8_row, .int (i32 m_isSpent_32), .int (i32 m_found), .ref aX8_sumMany, .ref aX8_sumShares, .ref aX8_sumSet, .ref aX8_taken, .ref aX8_restUp, .ref aX8_restDown, .int (i32 m_fewest), .int (i32 m_wishes), .ref aX8_wished, .ref aX8_far, .ref aX8_queue, .int (i32 m_divided), .ref aX8_divisors, .ref aX8_least, .long (i64 m_pairOne), .long (i64 m_pairTwo), .long (i64 m_sumUp), .long (i64 m_sumDown)])), (aX8_ups, aI X.cI 8 m_ups), (aX8_downs, aI X.cI 8 m_downs), (aX8_row, aL X.cJ 17 m_row_32)]) [2, 0, 1, 3] (by decide) rfl rfl ?_
    show Wat X 0 0 35 [(0, .ref hX8), (1, .int (i32 l1)), (2, .int (i32 l2))] [.int (i32 x32)] [(hX8, .inr (7, [.ref aX8_ups, .ref aX8_downs, .int (i32 m_many_32), .ref aX8_row, .int (i32 m_isSpent_32), .int (i32 m_found), .ref aX8_sumMany, .ref aX8_sumShares, .ref aX8_sumSet, .ref aX8_taken, .ref aX8_restUp, .ref aX8_restDown, .int (i32 m_fewest), .int (i32 m_wishes), .ref aX8_wished, .ref aX8_far, .ref aX8_queue, .int (i32 m_divided), .ref aX8_divisors, .ref aX8_least, .long (i64 m_pairOne), .long (i64 m_pairTwo), .long (i64 m_sumUp), .long (i64 m_sumDown)])), (aX8_ups, aI X.cI 8 m_ups), (aX8_downs, aI X.cI 8 m_downs), (aX8_row, aL X.cJ 17 m_row_32)]
    exact q_iret g hF ⟨x32, m_many_32, m_row_32, m_isSpent_32, rfl, rfl, rx32, rm_many_32, rm_row_32, rm_isSpent_32, h⟩ dX8_road_35
  replace h := h.2 b11
  refine q_lv (lv' := []) [] rfl ?_
  exact s_X8_road_14 g hR hX8 aX8_ups aX8_downs aX8_row m_found aX8_sumMany aX8_sumShares aX8_sumSet aX8_taken aX8_restUp aX8_restDown m_fewest m_wishes aX8_wished aX8_far aX8_queue m_divided aX8_divisors aX8_least m_pairOne m_pairTwo m_sumUp m_sumDown m_ups m_downs r_m_ups r_m_downs Q hF m_many m_row m_isSpent r_m_many r_m_row r_m_isSpent h
theorem dX8_share_0 : decode cX8_share 0 = .ok (.iload_n 1, 1) := by decide +kernel
theorem dX8_share_1 : decode cX8_share 1 = .ok (.invokestatic 126, 3) := by decide +kernel
theorem dX8_share_4 : decode cX8_share 4 = .ok (.ifCond .eq 14, 3) := by decide +kernel
theorem dX8_share_7 : decode cX8_share 7 = .ok (.iload_n 2, 1) := by decide +kernel
theorem dX8_share_8 : decode cX8_share 8 = .ok (.invokestatic 68, 3) := by decide +kernel
theorem dX8_share_11 : decode cX8_share 11 = .ok (.ifCond .eq 7, 3) := by decide +kernel
theorem dX8_share_14 : decode cX8_share 14 = .ok (.iload_n 3, 1) := by decide +kernel
theorem dX8_share_15 : decode cX8_share 15 = .ok (.ifCond .ge 7, 3) := by decide +kernel
theorem dX8_share_18 : decode cX8_share 18 = .ok (.ldc2_w 133, 3) := by decide +kernel
theorem dX8_share_21 : decode cX8_share 21 = .ok (.lreturn, 1) := by decide +kernel
theorem dX8_share_22 : decode cX8_share 22 = .ok (.aload_n 0, 1) := by decide +kernel
theorem dX8_share_23 : decode cX8_share 23 = .ok (.iload_n 1, 1) := by decide +kernel
theorem dX8_share_24 : decode cX8_share 24 = .ok (.aload_n 0, 1) := by decide +kernel
theorem dX8_share_25 : decode cX8_share 25 = .ok (.getfield 7, 3) := by decide +kernel
theorem dX8_share_28 : decode cX8_share 28 = .ok (.iload_n 2, 1) := by decide +kernel
theorem dX8_share_29 : decode cX8_share 29 = .ok (.iaload, 1) := by decide +kernel
theorem dX8_share_30 : decode cX8_share 30 = .ok (.i2l, 1) := by decide +kernel
theorem dX8_share_31 : decode cX8_share 31 = .ok (.aload_n 0, 1) := by decide +kernel
theorem dX8_share_32 : decode cX8_share 32 = .ok (.getfield 13, 3) := by decide +kernel
theorem dX8_share_35 : decode cX8_share 35 = .ok (.iload_n 2, 1) := by decide +kernel
theorem dX8_share_36 : decode cX8_share 36 = .ok (.iaload, 1) := by decide +kernel
theorem dX8_share_37 : decode cX8_share 37 = .ok (.i2l, 1) := by decide +kernel
theorem dX8_share_38 : decode cX8_share 38 = .ok (.invokevirtual 129, 3) := by decide +kernel
theorem dX8_share_41 : decode cX8_share 41 = .ok (.istore 4, 2) := by decide +kernel
theorem dX8_share_43 : decode cX8_share 43 = .ok (.iload 4, 2) := by decide +kernel
theorem dX8_share_45 : decode cX8_share 45 = .ok (.ifCond .ge 9, 3) := by decide +kernel
theorem dX8_share_48 : decode cX8_share 48 = .ok (.iload 4, 2) := by decide +kernel
theorem dX8_share_50 : decode cX8_share 50 = .ok (.i2l, 1) := by decide +kernel
theorem dX8_share_51 : decode cX8_share 51 = .ok (.goto 29, 3) := by decide +kernel
theorem dX8_share_54 : decode cX8_share 54 = .ok (.iload_n 3, 1) := by decide +kernel
theorem dX8_share_55 : decode cX8_share 55 = .ok (.i2l, 1) := by decide +kernel
theorem dX8_share_56 : decode cX8_share 56 = .ok (.lconst 0, 1) := by decide +kernel
theorem dX8_share_57 : decode cX8_share 57 = .ok (.iload 4, 2) := by decide +kernel
theorem dX8_share_59 : decode cX8_share 59 = .ok (.iconst 1, 1) := by decide +kernel
theorem dX8_share_60 : decode cX8_share 60 = .ok (.isub, 1) := by decide +kernel
theorem dX8_share_61 : decode cX8_share 61 = .ok (.i2l, 1) := by decide +kernel
theorem dX8_share_62 : decode cX8_share 62 = .ok (.invokestatic 60, 3) := by decide +kernel
theorem dX8_share_65 : decode cX8_share 65 = .ok (.ifCond .eq 12, 3) := by decide +kernel
theorem dX8_share_68 : decode cX8_share 68 = .ok (.aload_n 0, 1) := by decide +kernel
theorem dX8_share_69 : decode cX8_share 69 = .ok (.getfield 16, 3) := by decide +kernel
theorem dX8_share_72 : decode cX8_share 72 = .ok (.iload_n 3, 1) := by decide +kernel
theorem dX8_share_73 : decode cX8_share 73 = .ok (.laload, 1) := by decide +kernel
theorem dX8_share_74 : decode cX8_share 74 = .ok (.goto 6, 3) := by decide +kernel
theorem dX8_share_77 : decode cX8_share 77 = .ok (.ldc2_w 135, 3) := by decide +kernel
theorem dX8_share_80 : decode cX8_share 80 = .ok (.lreturn, 1) := by decide +kernel
abbrev po_X8_share (cI cJ : ClassId) (hX8 : Nat) (aX8_ups : Nat) (aX8_downs : Nat) (aX8_row : Nat) (m_found : Int) (aX8_sumMany : Nat) (aX8_sumShares : Nat) (aX8_sumSet : Nat) (aX8_taken : Nat) (aX8_restUp : Nat) (aX8_restDown : Nat) (m_fewest : Int) (m_wishes : Int) (aX8_wished : Nat) (aX8_far : Nat) (aX8_queue : Nat) (m_divided : Int) (aX8_divisors : Nat) (aX8_least : Nat) (m_pairOne : Int) (m_pairTwo : Int) (m_sumUp : Int) (m_sumDown : Int) (m_ups : Int → Int) (m_downs : Int → Int) (Q : Int → Int → (Int → Int) → Int → Prop) : Option Value → va_W → Prop := fun rv w1 => ∃ (r0 : Int) (m_many : Int) (m_row : Int → Int) (m_isSpent : Int), rv = some (.long (i64 r0)) ∧ w1 = [(hX8, .inr (7, [.ref aX8_ups, .ref aX8_downs, .int (i32 m_many), .ref aX8_row, .int (i32 m_isSpent), .int (i32 m_found), .ref aX8_sumMany, .ref aX8_sumShares, .ref aX8_sumSet, .ref aX8_taken, .ref aX8_restUp, .ref aX8_restDown, .int (i32 m_fewest), .int (i32 m_wishes), .ref aX8_wished, .ref aX8_far, .ref aX8_queue, .int (i32 m_divided), .ref aX8_divisors, .ref aX8_least, .long (i64 m_pairOne), .long (i64 m_pairTwo), .long (i64 m_sumUp), .long (i64 m_sumDown)])), (aX8_ups, aI cI 8 m_ups), (aX8_downs, aI cI 8 m_downs), (aX8_row, aL cJ 17 m_row)] ∧ r64 r0 ∧ r32 m_many ∧ rr64 m_row ∧ r32 m_isSpent ∧ Q r0 m_many m_row m_isSpent
def wp_X8_share_18 (Q : Int → Int → (Int → Int) → Int → Prop) (m_ups : Int → Int) (m_downs : Int → Int) (m_many : Int) (m_row : Int → Int) (m_isSpent : Int) : Prop := Q (-1) m_many m_row m_isSpent
set_option maxHeartbeats 4000000 in
set_option maxRecDepth 100000 in
theorem s_X8_share_18 {X : Cx} (g : Gd X cX8_share RX8 (some .long) 5) (hR : X.R = rmL 4 0 0) (hX8 : Nat) (aX8_ups : Nat) (aX8_downs : Nat) (aX8_row : Nat) (m_found : Int) (aX8_sumMany : Nat) (aX8_sumShares : Nat) (aX8_sumSet : Nat) (aX8_taken : Nat) (aX8_restUp : Nat) (aX8_restDown : Nat) (m_fewest : Int) (m_wishes : Int) (aX8_wished : Nat) (aX8_far : Nat) (aX8_queue : Nat) (m_divided : Int) (aX8_divisors : Nat) (aX8_least : Nat) (m_pairOne : Int) (m_pairTwo : Int) (m_sumUp : Int) (m_sumDown : Int) (m_ups : Int → Int) (m_downs : Int → Int) (r_m_ups : rr32 m_ups) (r_m_downs : rr32 m_downs) (Q : Int → Int → (Int → Int) → Int → Prop) (hF : FQ X 0 0 (po_X8_share X.cI X.cJ hX8 aX8_ups aX8_downs aX8_row m_found aX8_sumMany aX8_sumShares aX8_sumSet aX8_taken aX8_restUp aX8_restDown m_fewest m_wishes aX8_wished aX8_far aX8_queue m_divided aX8_divisors aX8_least m_pairOne m_pairTwo m_sumUp m_sumDown m_ups m_downs Q)) : ∀ (m_many : Int) (m_row : Int → Int) (m_isSpent : Int), r32 m_many → rr64 m_row → r32 m_isSpent → wp_X8_share_18 Q m_ups m_downs m_many m_row m_isSpent → Wat X 0 0 18 [] [] [(hX8, .inr (7, [.ref aX8_ups, .ref aX8_downs, .int (i32 m_many), .ref aX8_row, .int (i32 m_isSpent), .int (i32 m_found), .ref aX8_sumMany, .ref aX8_sumShares, .ref aX8_sumSet, .ref aX8_taken, .ref aX8_restUp, .ref aX8_restDown, .int (i32 m_fewest), .int (i32 m_wishes), .ref aX8_wished, .ref aX8_far, .ref aX8_queue, .int (i32 m_divided), .ref aX8_divisors, .ref aX8_least, .long (i64 m_pairOne), .long (i64 m_pairTwo), .long (i64 m_sumUp), .long (i64 m_sumDown)])), (aX8_ups, aI X.cI 8 m_ups), (aX8_downs, aI X.cI 8 m_downs), (aX8_row, aL X.cJ 17 m_row)] := by
  intro m_many m_row m_isSpent r_m_many r_m_row r_m_isSpent h
  rw [wp_X8_share_18] at h
  refine q_ldc2 (w := (-1)) g 133 (-1) (by decide +kernel) wL_X8_133 dX8_share_18 ?_
  exact q_lret g hF ⟨(-1), m_many, m_row, m_isSpent, rfl, rfl, (r64_lit _ (by decide)), r_m_many, r_m_row, r_m_isSpent, h⟩ dX8_share_21
def wp_X8_share_80 (Q : Int → Int → (Int → Int) → Int → Prop) (m_ups : Int → Int) (m_downs : Int → Int) (m_many : Int) (m_row : Int → Int) (m_isSpent : Int) (k0 : Int) : Prop := Q k0 m_many m_row m_isSpent
set_option maxHeartbeats 4000000 in
set_option maxRecDepth 100000 in
theorem s_X8_share_80 {X : Cx} (g : Gd X cX8_share RX8 (some .long) 5) (hR : X.R = rmL 4 0 0) (hX8 : Nat) (aX8_ups : Nat) (aX8_downs : Nat) (aX8_row : Nat) (m_found : Int) (aX8_sumMany : Nat) (aX8_sumShares : Nat) (aX8_sumSet : Nat) (aX8_taken : Nat) (aX8_restUp : Nat) (aX8_restDown : Nat) (m_fewest : Int) (m_wishes : Int) (aX8_wished : Nat) (aX8_far : Nat) (aX8_queue : Nat) (m_divided : Int) (aX8_divisors : Nat) (aX8_least : Nat) (m_pairOne : Int) (m_pairTwo : Int) (m_sumUp : Int) (m_sumDown : Int) (m_ups : Int → Int) (m_downs : Int → Int) (r_m_ups : rr32 m_ups) (r_m_downs : rr32 m_downs) (Q : Int → Int → (Int → Int) → Int → Prop) (hF : FQ X 0 0 (po_X8_share X.cI X.cJ hX8 aX8_ups aX8_downs aX8_row m_found aX8_sumMany aX8_sumShares aX8_sumSet aX8_taken aX8_restUp aX8_restDown m_fewest m_wishes aX8_wished aX8_far aX8_queue m_divided aX8_divisors aX8_least m_pairOne m_pairTwo m_sumUp m_sumDown m_ups m_downs Q)) : ∀ (m_many : Int) (m_row : Int → Int) (m_isSpent : Int) (k0 : Int), r32 m_many → rr64 m_row → r32 m_isSpent → r64 k0 → wp_X8_share_80 Q m_ups m_downs m_many m_row m_isSpent k0 → Wat X 0 0 80 [] [.long (i64 k0)] [(hX8, .inr (7, [.ref aX8_ups, .ref aX8_downs, .int (i32 m_many), .ref aX8_row, .int (i32 m_isSpent), .int (i32 m_found), .ref aX8_sumMany, .ref aX8_sumShares, .ref aX8_sumSet, .ref aX8_taken, .ref aX8_restUp, .ref aX8_restDown, .int (i32 m_fewest), .int (i32 m_wishes), .ref aX8_wished, .ref aX8_far, .ref aX8_queue, .int (i32 m_divided), .ref aX8_divisors, .ref aX8_least, .long (i64 m_pairOne), .long (i64 m_pairTwo), .long (i64 m_sumUp), .long (i64 m_sumDown)])), (aX8_ups, aI X.cI 8 m_ups), (aX8_downs, aI X.cI 8 m_downs), (aX8_row, aL X.cJ 17 m_row)] := by
  intro m_many m_row m_isSpent k0 r_m_many r_m_row r_m_isSpent r_k0 h
  rw [wp_X8_share_80] at h
  exact q_lret g hF ⟨k0, m_many, m_row, m_isSpent, rfl, rfl, r_k0, r_m_many, r_m_row, r_m_isSpent, h⟩ dX8_share_80
def wp_X8_share (Q : Int → Int → (Int → Int) → Int → Prop) (m_ups : Int → Int) (m_downs : Int → Int) (m_many : Int) (m_row : Int → Int) (m_isSpent : Int) (l1 : Int) (l2 : Int) (l3 : Int) : Prop := wp_X8_isRoad (fun (x1 : Int) => ((x1 = 0 → wp_X8_share_18 Q m_ups m_downs m_many m_row m_isSpent) ∧
  (¬ (x1 = 0) → wp_X8_isRegister (fun (x8 : Int) => ((x8 = 0 → wp_X8_share_18 Q m_ups m_downs m_many m_row m_isSpent) ∧
  (¬ (x8 = 0) → ((0 ≤ l3 → (0 ≤ l2 ∧ l2 < 8 ∧ 0 ≤ l2 ∧ l2 < 8 ∧ wp_X8_goRoad (fun (x38 : Int) (m_many_38 : Int) (m_row_38 : Int → Int) (m_isSpent_38 : Int) => ((0 ≤ x38 → (r32 (x38 - 1) ∧ wp_X8_in (fun (x62 : Int) => ((x62 = 0 → wp_X8_share_80 Q m_ups m_downs m_many_38 m_row_38 m_isSpent_38 (-4)) ∧
  (¬ (x62 = 0) → (0 ≤ l3 ∧ l3 < 17 ∧ wp_X8_share_80 Q m_ups m_downs m_many_38 m_row_38 m_isSpent_38 (m_row_38 l3))))) l3 0 (x38 - 1))) ∧
  (¬ (0 ≤ x38) → wp_X8_share_80 Q m_ups m_downs m_many_38 m_row_38 m_isSpent_38 x38))) m_many m_row m_isSpent l1 (m_ups l2) (m_downs l2))) ∧
  (¬ (0 ≤ l3) → wp_X8_share_18 Q m_ups m_downs m_many m_row m_isSpent))))) l2))) l1
set_option maxHeartbeats 4000000 in
set_option maxRecDepth 100000 in
theorem c_X8_share (l : Launch) (D : va_G) (cI cJ : ClassId) (zt : Nat) (hX8 : Nat) (aX8_ups : Nat) (aX8_downs : Nat) (m_many : Int) (aX8_row : Nat) (m_isSpent : Int) (m_found : Int) (aX8_sumMany : Nat) (aX8_sumShares : Nat) (aX8_sumSet : Nat) (aX8_taken : Nat) (aX8_restUp : Nat) (aX8_restDown : Nat) (m_fewest : Int) (m_wishes : Int) (aX8_wished : Nat) (aX8_far : Nat) (aX8_queue : Nat) (m_divided : Int) (aX8_divisors : Nat) (aX8_least : Nat) (m_pairOne : Int) (m_pairTwo : Int) (m_sumUp : Int) (m_sumDown : Int) (m_ups : Int → Int) (m_downs : Int → Int) (m_row : Int → Int) (l1 : Int) (l2 : Int) (l3 : Int) (Q : Int → Int → (Int → Int) → Int → Prop) (r_m_ups : rr32 m_ups) (r_m_downs : rr32 m_downs) (r_m_many : r32 m_many) (r_m_row : rr64 m_row) (r_m_isSpent : r32 m_isSpent) (r_l1 : r32 l1) (r_l2 : r32 l2) (r_l3 : r32 l3) (h : wp_X8_share Q m_ups m_downs m_many m_row m_isSpent l1 l2 l3) : Ct l D cI cJ zt yX8_share cX8_share 5 (some .long) 4 0 0 [.ref hX8, .int (i32 l1), .int (i32 l2), .int (i32 l3)] [(hX8, .inr (7, [.ref aX8_ups, .ref aX8_downs, .int (i32 m_many), .ref aX8_row, .int (i32 m_isSpent), .int (i32 m_found), .ref aX8_sumMany, .ref aX8_sumShares, .ref aX8_sumSet, .ref aX8_taken, .ref aX8_restUp, .ref aX8_restDown, .int (i32 m_fewest), .int (i32 m_wishes), .ref aX8_wished, .ref aX8_far, .ref aX8_queue, .int (i32 m_divided), .ref aX8_divisors, .ref aX8_least, .long (i64 m_pairOne), .long (i64 m_pairTwo), .long (i64 m_sumUp), .long (i64 m_sumDown)])), (aX8_ups, aI cI 8 m_ups), (aX8_downs, aI cI 8 m_downs), (aX8_row, aL cJ 17 m_row)] (po_X8_share cI cJ hX8 aX8_ups aX8_downs aX8_row m_found aX8_sumMany aX8_sumShares aX8_sumSet aX8_taken aX8_restUp aX8_restDown m_fewest m_wishes aX8_wished aX8_far aX8_queue m_divided aX8_divisors aX8_least m_pairOne m_pairTwo m_sumUp m_sumDown m_ups m_downs Q) := by
  refine ct_of (by decide +kernel) (Nat.le_of_ble_eq_true rfl) (fun X hl hDD hcI hcJ hzt hR hF hnm g => ?_)
  subst hl; subst hDD; subst hcI; subst hcJ; subst hzt
  show Wat X 0 0 0 [(0, .ref hX8), (1, .int (i32 l1)), (2, .int (i32 l2)), (3, .int (i32 l3))] [] [(hX8, .inr (7, [.ref aX8_ups, .ref aX8_downs, .int (i32 m_many), .ref aX8_row, .int (i32 m_isSpent), .int (i32 m_found), .ref aX8_sumMany, .ref aX8_sumShares, .ref aX8_sumSet, .ref aX8_taken, .ref aX8_restUp, .ref aX8_restDown, .int (i32 m_fewest), .int (i32 m_wishes), .ref aX8_wished, .ref aX8_far, .ref aX8_queue, .int (i32 m_divided), .ref aX8_divisors, .ref aX8_least, .long (i64 m_pairOne), .long (i64 m_pairTwo), .long (i64 m_sumUp), .long (i64 m_sumDown)])), (aX8_ups, aI X.cI 8 m_ups), (aX8_downs, aI X.cI 8 m_downs), (aX8_row, aL X.cJ 17 m_row)]
  replace g : Gd X cX8_share RX8 (some .long) 5 := g
  rw [wp_X8_share] at h
  refine q_iload_n g 1 1 rfl dX8_share_0 ?_
  refine q_callS (lev := 2) (mc := 0) (ms := 0) (As := [.int (i32 l1)]) g 126 (c_X8_isRoad X.l X.D X.cI X.cJ X.zt l1 _ r_l1 h) (wr := [(hX8, .inr (7, [.ref aX8_ups, .ref aX8_downs, .int (i32 m_many), .ref aX8_row, .int (i32 m_isSpent), .int (i32 m_found), .ref aX8_sumMany, .ref aX8_sumShares, .ref aX8_sumSet, .ref aX8_taken, .ref aX8_restUp, .ref aX8_restDown, .int (i32 m_fewest), .int (i32 m_wishes), .ref aX8_wished, .ref aX8_far, .ref aX8_queue, .int (i32 m_divided), .ref aX8_divisors, .ref aX8_least, .long (i64 m_pairOne), .long (i64 m_pairTwo), .long (i64 m_sumUp), .long (i64 m_sumDown)])), (aX8_ups, aI X.cI 8 m_ups), (aX8_downs, aI X.cI 8 m_downs), (aX8_row, aL X.cJ 17 m_row)]) [] [0, 1, 2, 3] rfl rfl rfl (by decide) (by decide) (by decide) wM_X8_126 wT_X8_isRoad wZ_X8 wC_X8_isRoad 1 rfl (by decide +kernel) (by rw [hR]; exact ⟨by show 2 + 1 ≤ 4; omega, by show 8 + (1 + 11) + 100 * 2 ≤ 100 * 4; omega⟩) (by rw [hR]; exact ⟨Nat.le_refl _, Nat.le_refl _⟩) (Nat.le_of_ble_eq_true rfl) rfl dX8_share_1 (fun rv w1 hq => ?_)
  obtain ⟨x1, rfl, rfl, rx1, h⟩ := hq
  show Wat X 0 0 4 [(0, .ref hX8), (1, .int (i32 l1)), (2, .int (i32 l2)), (3, .int (i32 l3))] [.int (i32 x1)] [(hX8, .inr (7, [.ref aX8_ups, .ref aX8_downs, .int (i32 m_many), .ref aX8_row, .int (i32 m_isSpent), .int (i32 m_found), .ref aX8_sumMany, .ref aX8_sumShares, .ref aX8_sumSet, .ref aX8_taken, .ref aX8_restUp, .ref aX8_restDown, .int (i32 m_fewest), .int (i32 m_wishes), .ref aX8_wished, .ref aX8_far, .ref aX8_queue, .int (i32 m_divided), .ref aX8_divisors, .ref aX8_least, .long (i64 m_pairOne), .long (i64 m_pairTwo), .long (i64 m_sumUp), .long (i64 m_sumDown)])), (aX8_ups, aI X.cI 8 m_ups), (aX8_downs, aI X.cI 8 m_downs), (aX8_row, aL X.cJ 17 m_row)]
  refine q_if_eq g (14) 18 rx1 (by decide) dX8_share_4 (fun b4 => ?_) (fun b4 => ?_)
  · replace h := h.1 b4
    refine q_lv (lv' := []) [] rfl ?_
    exact s_X8_share_18 g hR hX8 aX8_ups aX8_downs aX8_row m_found aX8_sumMany aX8_sumShares aX8_sumSet aX8_taken aX8_restUp aX8_restDown m_fewest m_wishes aX8_wished aX8_far aX8_queue m_divided aX8_divisors aX8_least m_pairOne m_pairTwo m_sumUp m_sumDown m_ups m_downs r_m_ups r_m_downs Q hF m_many m_row m_isSpent r_m_many r_m_row r_m_isSpent h
  replace h := h.2 b4
  refine q_iload_n g 2 2 rfl dX8_share_7 ?_
  refine q_callS (lev := 2) (mc := 0) (ms := 0) (As := [.int (i32 l2)]) g 68 (c_X8_isRegister X.l X.D X.cI X.cJ X.zt l2 _ r_l2 h) (wr := [(hX8, .inr (7, [.ref aX8_ups, .ref aX8_downs, .int (i32 m_many), .ref aX8_row, .int (i32 m_isSpent), .int (i32 m_found), .ref aX8_sumMany, .ref aX8_sumShares, .ref aX8_sumSet, .ref aX8_taken, .ref aX8_restUp, .ref aX8_restDown, .int (i32 m_fewest), .int (i32 m_wishes), .ref aX8_wished, .ref aX8_far, .ref aX8_queue, .int (i32 m_divided), .ref aX8_divisors, .ref aX8_least, .long (i64 m_pairOne), .long (i64 m_pairTwo), .long (i64 m_sumUp), .long (i64 m_sumDown)])), (aX8_ups, aI X.cI 8 m_ups), (aX8_downs, aI X.cI 8 m_downs), (aX8_row, aL X.cJ 17 m_row)]) [] [0, 1, 2, 3] rfl rfl rfl (by decide) (by decide) (by decide) wM_X8_68 wT_X8_isRegister wZ_X8 wC_X8_isRegister 1 rfl (by decide +kernel) (by rw [hR]; exact ⟨by show 2 + 1 ≤ 4; omega, by show 8 + (1 + 11) + 100 * 2 ≤ 100 * 4; omega⟩) (by rw [hR]; exact ⟨Nat.le_refl _, Nat.le_refl _⟩) (Nat.le_of_ble_eq_true rfl) rfl dX8_share_8 (fun rv w1 hq => ?_)
  obtain ⟨x8, rfl, rfl, rx8, h⟩ := hq
  show Wat X 0 0 11 [(0, .ref hX8), (1, .int (i32 l1)), (2, .int (i32 l2)), (3, .int (i32 l3))] [.int (i32 x8)] [(hX8, .inr (7, [.ref aX8_ups, .ref aX8_downs, .int (i32 m_many), .ref aX8_row, .int (i32 m_isSpent), .int (i32 m_found), .ref aX8_sumMany, .ref aX8_sumShares, .ref aX8_sumSet, .ref aX8_taken, .ref aX8_restUp, .ref aX8_restDown, .int (i32 m_fewest), .int (i32 m_wishes), .ref aX8_wished, .ref aX8_far, .ref aX8_queue, .int (i32 m_divided), .ref aX8_divisors, .ref aX8_least, .long (i64 m_pairOne), .long (i64 m_pairTwo), .long (i64 m_sumUp), .long (i64 m_sumDown)])), (aX8_ups, aI X.cI 8 m_ups), (aX8_downs, aI X.cI 8 m_downs), (aX8_row, aL X.cJ 17 m_row)]
  refine q_if_eq g (7) 18 rx8 (by decide) dX8_share_11 (fun b11 => ?_) (fun b11 => ?_)
  · replace h := h.1 b11
    refine q_lv (lv' := []) [] rfl ?_
    exact s_X8_share_18 g hR hX8 aX8_ups aX8_downs aX8_row m_found aX8_sumMany aX8_sumShares aX8_sumSet aX8_taken aX8_restUp aX8_restDown m_fewest m_wishes aX8_wished aX8_far aX8_queue m_divided aX8_divisors aX8_least m_pairOne m_pairTwo m_sumUp m_sumDown m_ups m_downs r_m_ups r_m_downs Q hF m_many m_row m_isSpent r_m_many r_m_row r_m_isSpent h
  replace h := h.2 b11
  refine q_iload_n g 3 3 rfl dX8_share_14 ?_
  refine q_if_ge g (7) 22 r_l3 (by decide) dX8_share_15 (fun b15 => ?_) (fun b15 => ?_)
  · replace h := h.1 b15
    refine q_aload_n g 0 0 rfl dX8_share_22 ?_
    refine q_iload_n g 1 1 rfl dX8_share_23 ?_
    refine q_aload_n g 0 0 rfl dX8_share_24 ?_
    refine q_get (C := RX8) (T := TX8) (N := 24) g 7 inX8 0 0 rfl rfl (by decide) wF_X8_7 rfl dX8_share_25 ?_
    refine q_iload_n g 2 2 rfl dX8_share_28 ?_
    obtain ⟨c29, h⟩ := h
    obtain ⟨e29, h⟩ := h
    refine q_iald g 1 rfl c29 e29 (by decide) dX8_share_29 ?_
    refine q_i2l g (r_m_ups _) dX8_share_30 ?_
    refine q_aload_n g 0 0 rfl dX8_share_31 ?_
    refine q_get (C := RX8) (T := TX8) (N := 24) g 13 inX8 0 1 rfl rfl (by decide) wF_X8_13 rfl dX8_share_32 ?_
    refine q_iload_n g 2 2 rfl dX8_share_35 ?_
    obtain ⟨c36, h⟩ := h
    obtain ⟨e36, h⟩ := h
    refine q_iald g 2 rfl c36 e36 (by decide) dX8_share_36 ?_
    refine q_i2l g (r_m_downs _) dX8_share_37 ?_
    refine q_callV (lev := 3) (mc := 0) (ms := 0) g 129 (c_X8_goRoad X.l X.D X.cI X.cJ X.zt hX8 aX8_ups aX8_downs m_many aX8_row m_isSpent m_found aX8_sumMany aX8_sumShares aX8_sumSet aX8_taken aX8_restUp aX8_restDown m_fewest m_wishes aX8_wished aX8_far aX8_queue m_divided aX8_divisors aX8_least m_pairOne m_pairTwo m_sumUp m_sumDown m_row l1 (m_ups l2) (m_downs l2) _ r_m_many r_m_row r_m_isSpent r_l1 (r32_64 (r_m_ups _)) (r32_64 (r_m_downs _)) h) (wr := [(aX8_ups, aI X.cI 8 m_ups), (aX8_downs, aI X.cI 8 m_downs)]) [0, 3] [1, 2] rfl rfl rfl (by decide) (by decide) (by decide) (ci := 7) rfl rfl rfl wM_X8_129 wI_X8_goRoad wS_X8_goRoad wZ_X8 wC_X8_goRoad 3 rfl (by decide +kernel) (by rw [hR]; exact ⟨by show 3 + 1 ≤ 4; omega, by show 8 + (6 + 11) + 100 * 3 ≤ 100 * 4; omega⟩) (by rw [hR]; exact ⟨Nat.le_refl _, Nat.le_refl _⟩) (Nat.le_of_ble_eq_true rfl) rfl dX8_share_38 (fun rv w1 hq => ?_)
    obtain ⟨x38, m_many_38, m_row_38, m_isSpent_38, rfl, rfl, rx38, rm_many_38, rm_row_38, rm_isSpent_38, h⟩ := hq
    refine q_ws (ws' := [(hX8, .inr (7, [.ref aX8_ups, .ref aX8_downs, .int (i32 m_many_38), .ref aX8_row, .int (i32 m_isSpent_38), .int (i32 m_found), .ref aX8_sumMany, .ref aX8_sumShares, .ref aX8_sumSet, .ref aX8_taken, .ref aX8_restUp, .ref aX8_restDown, .int (i32 m_fewest), .int (i32 m_wishes), .ref aX8_wished, .ref aX8_far, .ref aX8_queue, .int (i32 m_divided), .ref aX8_divisors, .ref aX8_least, .long (i64 m_pairOne), .long (i64 m_pairTwo), .long (i64 m_sumUp), .long (i64 m_sumDown)])), (aX8_ups, aI X.cI 8 m_ups), (aX8_downs, aI X.cI 8 m_downs), (aX8_row, aL X.cJ 17 m_row_38)]) [2, 0, 1, 3] (by decide) rfl rfl ?_
    show Wat X 0 0 41 [(0, .ref hX8), (1, .int (i32 l1)), (2, .int (i32 l2)), (3, .int (i32 l3))] [.int (i32 x38)] [(hX8, .inr (7, [.ref aX8_ups, .ref aX8_downs, .int (i32 m_many_38), .ref aX8_row, .int (i32 m_isSpent_38), .int (i32 m_found), .ref aX8_sumMany, .ref aX8_sumShares, .ref aX8_sumSet, .ref aX8_taken, .ref aX8_restUp, .ref aX8_restDown, .int (i32 m_fewest), .int (i32 m_wishes), .ref aX8_wished, .ref aX8_far, .ref aX8_queue, .int (i32 m_divided), .ref aX8_divisors, .ref aX8_least, .long (i64 m_pairOne), .long (i64 m_pairTwo), .long (i64 m_sumUp), .long (i64 m_sumDown)])), (aX8_ups, aI X.cI 8 m_ups), (aX8_downs, aI X.cI 8 m_downs), (aX8_row, aL X.cJ 17 m_row_38)]
    refine q_istore (lv' := [(4, .int (i32 x38)), (0, .ref hX8), (1, .int (i32 l1)), (2, .int (i32 l2)), (3, .int (i32 l3))]) g 4   (by decide) rfl dX8_share_41 ?_
    refine q_iload g 4 0 rfl dX8_share_43 ?_
    refine q_if_ge g (9) 54 rx38 (by decide) dX8_share_45 (fun b45 => ?_) (fun b45 => ?_)
    · replace h := h.1 b45
      refine q_iload_n g 3 4 rfl dX8_share_54 ?_
      refine q_i2l g r_l3 dX8_share_55 ?_
      refine q_lconst g 0 0 rfl dX8_share_56 ?_
      refine q_iload g 4 0 rfl dX8_share_57 ?_
      refine q_iconst g (1) dX8_share_59 ?_
      obtain ⟨c60, h⟩ := h
      refine q_isub g dX8_share_60 ?_
      refine q_i2l g c60 dX8_share_61 ?_
      refine q_callS (lev := 1) (mc := 0) (ms := 0) (As := [.long (i64 l3), .long (i64 0), .long (i64 (x38 - 1))]) g 60 (c_X8_in X.l X.D X.cI X.cJ X.zt l3 0 (x38 - 1) _ (r32_64 r_l3) (r64_lit _ (by decide)) (r32_64 c60) h) (wr := [(hX8, .inr (7, [.ref aX8_ups, .ref aX8_downs, .int (i32 m_many_38), .ref aX8_row, .int (i32 m_isSpent_38), .int (i32 m_found), .ref aX8_sumMany, .ref aX8_sumShares, .ref aX8_sumSet, .ref aX8_taken, .ref aX8_restUp, .ref aX8_restDown, .int (i32 m_fewest), .int (i32 m_wishes), .ref aX8_wished, .ref aX8_far, .ref aX8_queue, .int (i32 m_divided), .ref aX8_divisors, .ref aX8_least, .long (i64 m_pairOne), .long (i64 m_pairTwo), .long (i64 m_sumUp), .long (i64 m_sumDown)])), (aX8_ups, aI X.cI 8 m_ups), (aX8_downs, aI X.cI 8 m_downs), (aX8_row, aL X.cJ 17 m_row_38)]) [] [0, 1, 2, 3] rfl rfl rfl (by decide) (by decide) (by decide) wM_X8_60 wT_X8_in wZ_X8 wC_X8_in 3 rfl (by decide +kernel) (by rw [hR]; exact ⟨by show 1 + 1 ≤ 4; omega, by show 8 + (6 + 11) + 100 * 1 ≤ 100 * 4; omega⟩) (by rw [hR]; exact ⟨Nat.le_refl _, Nat.le_refl _⟩) (Nat.le_of_ble_eq_true rfl) rfl dX8_share_62 (fun rv w1 hq => ?_)
      obtain ⟨x62, rfl, rfl, rx62, h⟩ := hq
      show Wat X 0 0 65 [(4, .int (i32 x38)), (0, .ref hX8), (1, .int (i32 l1)), (2, .int (i32 l2)), (3, .int (i32 l3))] [.int (i32 x62)] [(hX8, .inr (7, [.ref aX8_ups, .ref aX8_downs, .int (i32 m_many_38), .ref aX8_row, .int (i32 m_isSpent_38), .int (i32 m_found), .ref aX8_sumMany, .ref aX8_sumShares, .ref aX8_sumSet, .ref aX8_taken, .ref aX8_restUp, .ref aX8_restDown, .int (i32 m_fewest), .int (i32 m_wishes), .ref aX8_wished, .ref aX8_far, .ref aX8_queue, .int (i32 m_divided), .ref aX8_divisors, .ref aX8_least, .long (i64 m_pairOne), .long (i64 m_pairTwo), .long (i64 m_sumUp), .long (i64 m_sumDown)])), (aX8_ups, aI X.cI 8 m_ups), (aX8_downs, aI X.cI 8 m_downs), (aX8_row, aL X.cJ 17 m_row_38)]
      refine q_if_eq g (12) 77 rx62 (by decide) dX8_share_65 (fun b65 => ?_) (fun b65 => ?_)
      · replace h := h.1 b65
        refine q_ldc2 (w := (-4)) g 135 (-4) (by decide +kernel) wL_X8_135 dX8_share_77 ?_
        refine q_lv (lv' := []) [] rfl ?_
        exact s_X8_share_80 g hR hX8 aX8_ups aX8_downs aX8_row m_found aX8_sumMany aX8_sumShares aX8_sumSet aX8_taken aX8_restUp aX8_restDown m_fewest m_wishes aX8_wished aX8_far aX8_queue m_divided aX8_divisors aX8_least m_pairOne m_pairTwo m_sumUp m_sumDown m_ups m_downs r_m_ups r_m_downs Q hF m_many_38 m_row_38 m_isSpent_38 (-4) rm_many_38 rm_row_38 rm_isSpent_38 (r64_lit _ (by decide)) h
      replace h := h.2 b65
      refine q_aload_n g 0 1 rfl dX8_share_68 ?_
      refine q_get (C := RX8) (T := TX8) (N := 24) g 16 inX8 0 3 rfl rfl (by decide) wF_X8_16 rfl dX8_share_69 ?_
      refine q_iload_n g 3 4 rfl dX8_share_72 ?_
      obtain ⟨c73, h⟩ := h
      obtain ⟨e73, h⟩ := h
      refine q_lald g 3 rfl c73 e73 (by decide) dX8_share_73 ?_
      refine q_goto g (6) 80 (by decide) dX8_share_74 ?_
      refine q_lv (lv' := []) [] rfl ?_
      exact s_X8_share_80 g hR hX8 aX8_ups aX8_downs aX8_row m_found aX8_sumMany aX8_sumShares aX8_sumSet aX8_taken aX8_restUp aX8_restDown m_fewest m_wishes aX8_wished aX8_far aX8_queue m_divided aX8_divisors aX8_least m_pairOne m_pairTwo m_sumUp m_sumDown m_ups m_downs r_m_ups r_m_downs Q hF m_many_38 m_row_38 m_isSpent_38 (m_row_38 l3) rm_many_38 rm_row_38 rm_isSpent_38 (rm_row_38 _) h
    replace h := h.2 b45
    refine q_iload g 4 0 rfl dX8_share_48 ?_
    refine q_i2l g rx38 dX8_share_50 ?_
    refine q_goto g (29) 80 (by decide) dX8_share_51 ?_
    refine q_lv (lv' := []) [] rfl ?_
    exact s_X8_share_80 g hR hX8 aX8_ups aX8_downs aX8_row m_found aX8_sumMany aX8_sumShares aX8_sumSet aX8_taken aX8_restUp aX8_restDown m_fewest m_wishes aX8_wished aX8_far aX8_queue m_divided aX8_divisors aX8_least m_pairOne m_pairTwo m_sumUp m_sumDown m_ups m_downs r_m_ups r_m_downs Q hF m_many_38 m_row_38 m_isSpent_38 x38 rm_many_38 rm_row_38 rm_isSpent_38 (r32_64 rx38) h
  replace h := h.2 b15
  refine q_lv (lv' := []) [] rfl ?_
  exact s_X8_share_18 g hR hX8 aX8_ups aX8_downs aX8_row m_found aX8_sumMany aX8_sumShares aX8_sumSet aX8_taken aX8_restUp aX8_restDown m_fewest m_wishes aX8_wished aX8_far aX8_queue m_divided aX8_divisors aX8_least m_pairOne m_pairTwo m_sumUp m_sumDown m_ups m_downs r_m_ups r_m_downs Q hF m_many m_row m_isSpent r_m_many r_m_row r_m_isSpent h
theorem dX8_sum_0 : decode cX8_sum 0 = .ok (.iload_n 1, 1) := by decide +kernel
theorem dX8_sum_1 : decode cX8_sum 1 = .ok (.ifCond .lt 8, 3) := by decide +kernel
theorem dX8_sum_4 : decode cX8_sum 4 = .ok (.iload_n 2, 1) := by decide +kernel
theorem dX8_sum_5 : decode cX8_sum 5 = .ok (.iconst (-1), 1) := by decide +kernel
theorem dX8_sum_6 : decode cX8_sum 6 = .ok (.if_icmp .ge 5, 3) := by decide +kernel
theorem dX8_sum_9 : decode cX8_sum 9 = .ok (.iconst (-1), 1) := by decide +kernel
theorem dX8_sum_10 : decode cX8_sum 10 = .ok (.ireturn, 1) := by decide +kernel
theorem dX8_sum_11 : decode cX8_sum 11 = .ok (.aload_n 0, 1) := by decide +kernel
theorem dX8_sum_12 : decode cX8_sum 12 = .ok (.getfield 20, 3) := by decide +kernel
theorem dX8_sum_15 : decode cX8_sum 15 = .ok (.ifCond .ge 6, 3) := by decide +kernel
theorem dX8_sum_18 : decode cX8_sum 18 = .ok (.bipush (-2), 2) := by decide +kernel
theorem dX8_sum_20 : decode cX8_sum 20 = .ok (.ireturn, 1) := by decide +kernel
theorem dX8_sum_21 : decode cX8_sum 21 = .ok (.iload_n 1, 1) := by decide +kernel
theorem dX8_sum_22 : decode cX8_sum 22 = .ok (.i2l, 1) := by decide +kernel
theorem dX8_sum_23 : decode cX8_sum 23 = .ok (.lconst 0, 1) := by decide +kernel
theorem dX8_sum_24 : decode cX8_sum 24 = .ok (.aload_n 0, 1) := by decide +kernel
theorem dX8_sum_25 : decode cX8_sum 25 = .ok (.getfield 20, 3) := by decide +kernel
theorem dX8_sum_28 : decode cX8_sum 28 = .ok (.iconst 1, 1) := by decide +kernel
theorem dX8_sum_29 : decode cX8_sum 29 = .ok (.isub, 1) := by decide +kernel
theorem dX8_sum_30 : decode cX8_sum 30 = .ok (.i2l, 1) := by decide +kernel
theorem dX8_sum_31 : decode cX8_sum 31 = .ok (.invokestatic 60, 3) := by decide +kernel
theorem dX8_sum_34 : decode cX8_sum 34 = .ok (.ifCond .ne 6, 3) := by decide +kernel
theorem dX8_sum_37 : decode cX8_sum 37 = .ok (.bipush (-4), 2) := by decide +kernel
theorem dX8_sum_39 : decode cX8_sum 39 = .ok (.ireturn, 1) := by decide +kernel
theorem dX8_sum_40 : decode cX8_sum 40 = .ok (.iload_n 2, 1) := by decide +kernel
theorem dX8_sum_41 : decode cX8_sum 41 = .ok (.iconst (-1), 1) := by decide +kernel
theorem dX8_sum_42 : decode cX8_sum 42 = .ok (.if_icmp .ne 12, 3) := by decide +kernel
theorem dX8_sum_45 : decode cX8_sum 45 = .ok (.aload_n 0, 1) := by decide +kernel
theorem dX8_sum_46 : decode cX8_sum 46 = .ok (.getfield 24, 3) := by decide +kernel
theorem dX8_sum_49 : decode cX8_sum 49 = .ok (.iload_n 1, 1) := by decide +kernel
theorem dX8_sum_50 : decode cX8_sum 50 = .ok (.iaload, 1) := by decide +kernel
theorem dX8_sum_51 : decode cX8_sum 51 = .ok (.goto 37, 3) := by decide +kernel
theorem dX8_sum_54 : decode cX8_sum 54 = .ok (.iload_n 2, 1) := by decide +kernel
theorem dX8_sum_55 : decode cX8_sum 55 = .ok (.i2l, 1) := by decide +kernel
theorem dX8_sum_56 : decode cX8_sum 56 = .ok (.lconst 0, 1) := by decide +kernel
theorem dX8_sum_57 : decode cX8_sum 57 = .ok (.aload_n 0, 1) := by decide +kernel
theorem dX8_sum_58 : decode cX8_sum 58 = .ok (.getfield 24, 3) := by decide +kernel
theorem dX8_sum_61 : decode cX8_sum 61 = .ok (.iload_n 1, 1) := by decide +kernel
theorem dX8_sum_62 : decode cX8_sum 62 = .ok (.iaload, 1) := by decide +kernel
theorem dX8_sum_63 : decode cX8_sum 63 = .ok (.iconst 1, 1) := by decide +kernel
theorem dX8_sum_64 : decode cX8_sum 64 = .ok (.isub, 1) := by decide +kernel
theorem dX8_sum_65 : decode cX8_sum 65 = .ok (.i2l, 1) := by decide +kernel
theorem dX8_sum_66 : decode cX8_sum 66 = .ok (.invokestatic 60, 3) := by decide +kernel
theorem dX8_sum_69 : decode cX8_sum 69 = .ok (.ifCond .eq 17, 3) := by decide +kernel
theorem dX8_sum_72 : decode cX8_sum 72 = .ok (.aload_n 0, 1) := by decide +kernel
theorem dX8_sum_73 : decode cX8_sum 73 = .ok (.getfield 27, 3) := by decide +kernel
theorem dX8_sum_76 : decode cX8_sum 76 = .ok (.bipush 6, 2) := by decide +kernel
theorem dX8_sum_78 : decode cX8_sum 78 = .ok (.iload_n 1, 1) := by decide +kernel
theorem dX8_sum_79 : decode cX8_sum 79 = .ok (.imul, 1) := by decide +kernel
theorem dX8_sum_80 : decode cX8_sum 80 = .ok (.iload_n 2, 1) := by decide +kernel
theorem dX8_sum_81 : decode cX8_sum 81 = .ok (.iadd, 1) := by decide +kernel
theorem dX8_sum_82 : decode cX8_sum 82 = .ok (.iaload, 1) := by decide +kernel
theorem dX8_sum_83 : decode cX8_sum 83 = .ok (.goto 5, 3) := by decide +kernel
theorem dX8_sum_86 : decode cX8_sum 86 = .ok (.bipush (-4), 2) := by decide +kernel
theorem dX8_sum_88 : decode cX8_sum 88 = .ok (.ireturn, 1) := by decide +kernel
abbrev po_X8_sum (cI cJ : ClassId) (hX8 : Nat) (aX8_ups : Nat) (aX8_downs : Nat) (m_many : Int) (aX8_row : Nat) (m_isSpent : Int) (m_found : Int) (aX8_sumMany : Nat) (aX8_sumShares : Nat) (aX8_sumSet : Nat) (aX8_taken : Nat) (aX8_restUp : Nat) (aX8_restDown : Nat) (m_fewest : Int) (m_wishes : Int) (aX8_wished : Nat) (aX8_far : Nat) (aX8_queue : Nat) (m_divided : Int) (aX8_divisors : Nat) (aX8_least : Nat) (m_pairOne : Int) (m_pairTwo : Int) (m_sumUp : Int) (m_sumDown : Int) (m_sumMany : Int → Int) (m_sumShares : Int → Int) (Q : Int → Prop) : Option Value → va_W → Prop := fun rv w1 => ∃ (r0 : Int), rv = some (.int (i32 r0)) ∧ w1 = [(hX8, .inr (7, [.ref aX8_ups, .ref aX8_downs, .int (i32 m_many), .ref aX8_row, .int (i32 m_isSpent), .int (i32 m_found), .ref aX8_sumMany, .ref aX8_sumShares, .ref aX8_sumSet, .ref aX8_taken, .ref aX8_restUp, .ref aX8_restDown, .int (i32 m_fewest), .int (i32 m_wishes), .ref aX8_wished, .ref aX8_far, .ref aX8_queue, .int (i32 m_divided), .ref aX8_divisors, .ref aX8_least, .long (i64 m_pairOne), .long (i64 m_pairTwo), .long (i64 m_sumUp), .long (i64 m_sumDown)])), (aX8_sumMany, aI cI 2000 m_sumMany), (aX8_sumShares, aI cI 12000 m_sumShares)] ∧ r32 r0 ∧ Q r0
def wp_X8_sum_9 (Q : Int → Prop) (m_found : Int) (m_sumMany : Int → Int) (m_sumShares : Int → Int) : Prop := Q (-1)
set_option maxHeartbeats 4000000 in
set_option maxRecDepth 100000 in
theorem s_X8_sum_9 {X : Cx} (g : Gd X cX8_sum RX8 (some .int) 3) (hR : X.R = rmL 2 0 0) (hX8 : Nat) (aX8_ups : Nat) (aX8_downs : Nat) (m_many : Int) (aX8_row : Nat) (m_isSpent : Int) (aX8_sumMany : Nat) (aX8_sumShares : Nat) (aX8_sumSet : Nat) (aX8_taken : Nat) (aX8_restUp : Nat) (aX8_restDown : Nat) (m_fewest : Int) (m_wishes : Int) (aX8_wished : Nat) (aX8_far : Nat) (aX8_queue : Nat) (m_divided : Int) (aX8_divisors : Nat) (aX8_least : Nat) (m_pairOne : Int) (m_pairTwo : Int) (m_sumUp : Int) (m_sumDown : Int) (m_found : Int) (m_sumMany : Int → Int) (m_sumShares : Int → Int) (r_m_found : r32 m_found) (r_m_sumMany : rr32 m_sumMany) (r_m_sumShares : rr32 m_sumShares) (Q : Int → Prop) (hF : FQ X 0 0 (po_X8_sum X.cI X.cJ hX8 aX8_ups aX8_downs m_many aX8_row m_isSpent m_found aX8_sumMany aX8_sumShares aX8_sumSet aX8_taken aX8_restUp aX8_restDown m_fewest m_wishes aX8_wished aX8_far aX8_queue m_divided aX8_divisors aX8_least m_pairOne m_pairTwo m_sumUp m_sumDown m_sumMany m_sumShares Q)) : wp_X8_sum_9 Q m_found m_sumMany m_sumShares → Wat X 0 0 9 [] [] [(hX8, .inr (7, [.ref aX8_ups, .ref aX8_downs, .int (i32 m_many), .ref aX8_row, .int (i32 m_isSpent), .int (i32 m_found), .ref aX8_sumMany, .ref aX8_sumShares, .ref aX8_sumSet, .ref aX8_taken, .ref aX8_restUp, .ref aX8_restDown, .int (i32 m_fewest), .int (i32 m_wishes), .ref aX8_wished, .ref aX8_far, .ref aX8_queue, .int (i32 m_divided), .ref aX8_divisors, .ref aX8_least, .long (i64 m_pairOne), .long (i64 m_pairTwo), .long (i64 m_sumUp), .long (i64 m_sumDown)])), (aX8_sumMany, aI X.cI 2000 m_sumMany), (aX8_sumShares, aI X.cI 12000 m_sumShares)] := by
  intro h
  rw [wp_X8_sum_9] at h
  refine q_iconst g (-1) dX8_sum_9 ?_
  exact q_iret g hF ⟨(-1), rfl, rfl, (r32_lit _ (by decide)), h⟩ dX8_sum_10
def wp_X8_sum_88 (Q : Int → Prop) (m_found : Int) (m_sumMany : Int → Int) (m_sumShares : Int → Int) (k0 : Int) : Prop := Q k0
set_option maxHeartbeats 4000000 in
set_option maxRecDepth 100000 in
theorem s_X8_sum_88 {X : Cx} (g : Gd X cX8_sum RX8 (some .int) 3) (hR : X.R = rmL 2 0 0) (hX8 : Nat) (aX8_ups : Nat) (aX8_downs : Nat) (m_many : Int) (aX8_row : Nat) (m_isSpent : Int) (aX8_sumMany : Nat) (aX8_sumShares : Nat) (aX8_sumSet : Nat) (aX8_taken : Nat) (aX8_restUp : Nat) (aX8_restDown : Nat) (m_fewest : Int) (m_wishes : Int) (aX8_wished : Nat) (aX8_far : Nat) (aX8_queue : Nat) (m_divided : Int) (aX8_divisors : Nat) (aX8_least : Nat) (m_pairOne : Int) (m_pairTwo : Int) (m_sumUp : Int) (m_sumDown : Int) (m_found : Int) (m_sumMany : Int → Int) (m_sumShares : Int → Int) (r_m_found : r32 m_found) (r_m_sumMany : rr32 m_sumMany) (r_m_sumShares : rr32 m_sumShares) (Q : Int → Prop) (hF : FQ X 0 0 (po_X8_sum X.cI X.cJ hX8 aX8_ups aX8_downs m_many aX8_row m_isSpent m_found aX8_sumMany aX8_sumShares aX8_sumSet aX8_taken aX8_restUp aX8_restDown m_fewest m_wishes aX8_wished aX8_far aX8_queue m_divided aX8_divisors aX8_least m_pairOne m_pairTwo m_sumUp m_sumDown m_sumMany m_sumShares Q)) : ∀ (k0 : Int), r32 k0 → wp_X8_sum_88 Q m_found m_sumMany m_sumShares k0 → Wat X 0 0 88 [] [.int (i32 k0)] [(hX8, .inr (7, [.ref aX8_ups, .ref aX8_downs, .int (i32 m_many), .ref aX8_row, .int (i32 m_isSpent), .int (i32 m_found), .ref aX8_sumMany, .ref aX8_sumShares, .ref aX8_sumSet, .ref aX8_taken, .ref aX8_restUp, .ref aX8_restDown, .int (i32 m_fewest), .int (i32 m_wishes), .ref aX8_wished, .ref aX8_far, .ref aX8_queue, .int (i32 m_divided), .ref aX8_divisors, .ref aX8_least, .long (i64 m_pairOne), .long (i64 m_pairTwo), .long (i64 m_sumUp), .long (i64 m_sumDown)])), (aX8_sumMany, aI X.cI 2000 m_sumMany), (aX8_sumShares, aI X.cI 12000 m_sumShares)] := by
  intro k0 r_k0 h
  rw [wp_X8_sum_88] at h
  exact q_iret g hF ⟨k0, rfl, rfl, r_k0, h⟩ dX8_sum_88
def wp_X8_sum (Q : Int → Prop) (m_found : Int) (m_sumMany : Int → Int) (m_sumShares : Int → Int) (l1 : Int) (l2 : Int) : Prop := ((l1 < 0 → wp_X8_sum_9 Q m_found m_sumMany m_sumShares) ∧
  (¬ (l1 < 0) → (((-1) ≤ l2 → ((0 ≤ m_found → (r32 (m_found - 1) ∧ wp_X8_in (fun (x31 : Int) => ((¬ x31 = 0 → ((¬ l2 = (-1) → (0 ≤ l1 ∧ l1 < 2000 ∧ r32 ((m_sumMany l1) - 1) ∧ wp_X8_in (fun (x66 : Int) => ((x66 = 0 → wp_X8_sum_88 Q m_found m_sumMany m_sumShares (-4)) ∧
  (¬ (x66 = 0) → (r32 (6 * l1) ∧ r32 ((6 * l1) + l2) ∧ 0 ≤ ((6 * l1) + l2) ∧ ((6 * l1) + l2) < 12000 ∧ wp_X8_sum_88 Q m_found m_sumMany m_sumShares (m_sumShares ((6 * l1) + l2)))))) l2 0 ((m_sumMany l1) - 1))) ∧
  (l2 = (-1) → (0 ≤ l1 ∧ l1 < 2000 ∧ wp_X8_sum_88 Q m_found m_sumMany m_sumShares (m_sumMany l1))))) ∧
  (x31 = 0 → Q (-4)))) l1 0 (m_found - 1))) ∧
  (¬ (0 ≤ m_found) → Q (-2)))) ∧
  (¬ ((-1) ≤ l2) → wp_X8_sum_9 Q m_found m_sumMany m_sumShares))))
set_option maxHeartbeats 4000000 in
set_option maxRecDepth 100000 in
theorem c_X8_sum (l : Launch) (D : va_G) (cI cJ : ClassId) (zt : Nat) (hX8 : Nat) (aX8_ups : Nat) (aX8_downs : Nat) (m_many : Int) (aX8_row : Nat) (m_isSpent : Int) (m_found : Int) (aX8_sumMany : Nat) (aX8_sumShares : Nat) (aX8_sumSet : Nat) (aX8_taken : Nat) (aX8_restUp : Nat) (aX8_restDown : Nat) (m_fewest : Int) (m_wishes : Int) (aX8_wished : Nat) (aX8_far : Nat) (aX8_queue : Nat) (m_divided : Int) (aX8_divisors : Nat) (aX8_least : Nat) (m_pairOne : Int) (m_pairTwo : Int) (m_sumUp : Int) (m_sumDown : Int) (m_sumMany : Int → Int) (m_sumShares : Int → Int) (l1 : Int) (l2 : Int) (Q : Int → Prop) (r_m_found : r32 m_found) (r_m_sumMany : rr32 m_sumMany) (r_m_sumShares : rr32 m_sumShares) (r_l1 : r32 l1) (r_l2 : r32 l2) (h : wp_X8_sum Q m_found m_sumMany m_sumShares l1 l2) : Ct l D cI cJ zt yX8_sum cX8_sum 3 (some .int) 2 0 0 [.ref hX8, .int (i32 l1), .int (i32 l2)] [(hX8, .inr (7, [.ref aX8_ups, .ref aX8_downs, .int (i32 m_many), .ref aX8_row, .int (i32 m_isSpent), .int (i32 m_found), .ref aX8_sumMany, .ref aX8_sumShares, .ref aX8_sumSet, .ref aX8_taken, .ref aX8_restUp, .ref aX8_restDown, .int (i32 m_fewest), .int (i32 m_wishes), .ref aX8_wished, .ref aX8_far, .ref aX8_queue, .int (i32 m_divided), .ref aX8_divisors, .ref aX8_least, .long (i64 m_pairOne), .long (i64 m_pairTwo), .long (i64 m_sumUp), .long (i64 m_sumDown)])), (aX8_sumMany, aI cI 2000 m_sumMany), (aX8_sumShares, aI cI 12000 m_sumShares)] (po_X8_sum cI cJ hX8 aX8_ups aX8_downs m_many aX8_row m_isSpent m_found aX8_sumMany aX8_sumShares aX8_sumSet aX8_taken aX8_restUp aX8_restDown m_fewest m_wishes aX8_wished aX8_far aX8_queue m_divided aX8_divisors aX8_least m_pairOne m_pairTwo m_sumUp m_sumDown m_sumMany m_sumShares Q) := by
  refine ct_of (by decide +kernel) (Nat.le_of_ble_eq_true rfl) (fun X hl hDD hcI hcJ hzt hR hF hnm g => ?_)
  subst hl; subst hDD; subst hcI; subst hcJ; subst hzt
  show Wat X 0 0 0 [(0, .ref hX8), (1, .int (i32 l1)), (2, .int (i32 l2))] [] [(hX8, .inr (7, [.ref aX8_ups, .ref aX8_downs, .int (i32 m_many), .ref aX8_row, .int (i32 m_isSpent), .int (i32 m_found), .ref aX8_sumMany, .ref aX8_sumShares, .ref aX8_sumSet, .ref aX8_taken, .ref aX8_restUp, .ref aX8_restDown, .int (i32 m_fewest), .int (i32 m_wishes), .ref aX8_wished, .ref aX8_far, .ref aX8_queue, .int (i32 m_divided), .ref aX8_divisors, .ref aX8_least, .long (i64 m_pairOne), .long (i64 m_pairTwo), .long (i64 m_sumUp), .long (i64 m_sumDown)])), (aX8_sumMany, aI X.cI 2000 m_sumMany), (aX8_sumShares, aI X.cI 12000 m_sumShares)]
  replace g : Gd X cX8_sum RX8 (some .int) 3 := g
  rw [wp_X8_sum] at h
  refine q_iload_n g 1 1 rfl dX8_sum_0 ?_
  refine q_if_lt g (8) 9 r_l1 (by decide) dX8_sum_1 (fun b1 => ?_) (fun b1 => ?_)
  · replace h := h.1 b1
    refine q_lv (lv' := []) [] rfl ?_
    exact s_X8_sum_9 g hR hX8 aX8_ups aX8_downs m_many aX8_row m_isSpent aX8_sumMany aX8_sumShares aX8_sumSet aX8_taken aX8_restUp aX8_restDown m_fewest m_wishes aX8_wished aX8_far aX8_queue m_divided aX8_divisors aX8_least m_pairOne m_pairTwo m_sumUp m_sumDown m_found m_sumMany m_sumShares r_m_found r_m_sumMany r_m_sumShares Q hF h
  replace h := h.2 b1
  refine q_iload_n g 2 2 rfl dX8_sum_4 ?_
  refine q_iconst g (-1) dX8_sum_5 ?_
  refine q_icmp_ge g (5) 11 r_l2 (r32_lit _ (by decide)) (by decide) dX8_sum_6 (fun b6 => ?_) (fun b6 => ?_)
  · replace h := h.1 b6
    refine q_aload_n g 0 0 rfl dX8_sum_11 ?_
    refine q_get (C := RX8) (T := TX8) (N := 24) g 20 inX8 0 5 rfl rfl (by decide) wF_X8_20 rfl dX8_sum_12 ?_
    refine q_if_ge g (6) 21 r_m_found (by decide) dX8_sum_15 (fun b15 => ?_) (fun b15 => ?_)
    · replace h := h.1 b15
      refine q_iload_n g 1 1 rfl dX8_sum_21 ?_
      refine q_i2l g r_l1 dX8_sum_22 ?_
      refine q_lconst g 0 0 rfl dX8_sum_23 ?_
      refine q_aload_n g 0 0 rfl dX8_sum_24 ?_
      refine q_get (C := RX8) (T := TX8) (N := 24) g 20 inX8 0 5 rfl rfl (by decide) wF_X8_20 rfl dX8_sum_25 ?_
      refine q_iconst g (1) dX8_sum_28 ?_
      obtain ⟨c29, h⟩ := h
      refine q_isub g dX8_sum_29 ?_
      refine q_i2l g c29 dX8_sum_30 ?_
      refine q_callS (lev := 1) (mc := 0) (ms := 0) (As := [.long (i64 l1), .long (i64 0), .long (i64 (m_found - 1))]) g 60 (c_X8_in X.l X.D X.cI X.cJ X.zt l1 0 (m_found - 1) _ (r32_64 r_l1) (r64_lit _ (by decide)) (r32_64 c29) h) (wr := [(hX8, .inr (7, [.ref aX8_ups, .ref aX8_downs, .int (i32 m_many), .ref aX8_row, .int (i32 m_isSpent), .int (i32 m_found), .ref aX8_sumMany, .ref aX8_sumShares, .ref aX8_sumSet, .ref aX8_taken, .ref aX8_restUp, .ref aX8_restDown, .int (i32 m_fewest), .int (i32 m_wishes), .ref aX8_wished, .ref aX8_far, .ref aX8_queue, .int (i32 m_divided), .ref aX8_divisors, .ref aX8_least, .long (i64 m_pairOne), .long (i64 m_pairTwo), .long (i64 m_sumUp), .long (i64 m_sumDown)])), (aX8_sumMany, aI X.cI 2000 m_sumMany), (aX8_sumShares, aI X.cI 12000 m_sumShares)]) [] [0, 1, 2] rfl rfl rfl (by decide) (by decide) (by decide) wM_X8_60 wT_X8_in wZ_X8 wC_X8_in 3 rfl (by decide +kernel) (by rw [hR]; exact ⟨by show 1 + 1 ≤ 2; omega, by show 8 + (6 + 11) + 100 * 1 ≤ 100 * 2; omega⟩) (by rw [hR]; exact ⟨Nat.le_refl _, Nat.le_refl _⟩) (Nat.le_of_ble_eq_true rfl) rfl dX8_sum_31 (fun rv w1 hq => ?_)
      obtain ⟨x31, rfl, rfl, rx31, h⟩ := hq
      show Wat X 0 0 34 [(0, .ref hX8), (1, .int (i32 l1)), (2, .int (i32 l2))] [.int (i32 x31)] [(hX8, .inr (7, [.ref aX8_ups, .ref aX8_downs, .int (i32 m_many), .ref aX8_row, .int (i32 m_isSpent), .int (i32 m_found), .ref aX8_sumMany, .ref aX8_sumShares, .ref aX8_sumSet, .ref aX8_taken, .ref aX8_restUp, .ref aX8_restDown, .int (i32 m_fewest), .int (i32 m_wishes), .ref aX8_wished, .ref aX8_far, .ref aX8_queue, .int (i32 m_divided), .ref aX8_divisors, .ref aX8_least, .long (i64 m_pairOne), .long (i64 m_pairTwo), .long (i64 m_sumUp), .long (i64 m_sumDown)])), (aX8_sumMany, aI X.cI 2000 m_sumMany), (aX8_sumShares, aI X.cI 12000 m_sumShares)]
      refine q_if_ne g (6) 40 rx31 (by decide) dX8_sum_34 (fun b34 => ?_) (fun b34 => ?_)
      · replace h := h.1 b34
        refine q_iload_n g 2 2 rfl dX8_sum_40 ?_
        refine q_iconst g (-1) dX8_sum_41 ?_
        refine q_icmp_ne g (12) 54 r_l2 (r32_lit _ (by decide)) (by decide) dX8_sum_42 (fun b42 => ?_) (fun b42 => ?_)
        · replace h := h.1 b42
          refine q_iload_n g 2 2 rfl dX8_sum_54 ?_
          refine q_i2l g r_l2 dX8_sum_55 ?_
          refine q_lconst g 0 0 rfl dX8_sum_56 ?_
          refine q_aload_n g 0 0 rfl dX8_sum_57 ?_
          refine q_get (C := RX8) (T := TX8) (N := 24) g 24 inX8 0 6 rfl rfl (by decide) wF_X8_24 rfl dX8_sum_58 ?_
          refine q_iload_n g 1 1 rfl dX8_sum_61 ?_
          obtain ⟨c62, h⟩ := h
          obtain ⟨e62, h⟩ := h
          refine q_iald g 1 rfl c62 e62 (by decide) dX8_sum_62 ?_
          refine q_iconst g (1) dX8_sum_63 ?_
          obtain ⟨c64, h⟩ := h
          refine q_isub g dX8_sum_64 ?_
          refine q_i2l g c64 dX8_sum_65 ?_
          refine q_callS (lev := 1) (mc := 0) (ms := 0) (As := [.long (i64 l2), .long (i64 0), .long (i64 ((m_sumMany l1) - 1))]) g 60 (c_X8_in X.l X.D X.cI X.cJ X.zt l2 0 ((m_sumMany l1) - 1) _ (r32_64 r_l2) (r64_lit _ (by decide)) (r32_64 c64) h) (wr := [(hX8, .inr (7, [.ref aX8_ups, .ref aX8_downs, .int (i32 m_many), .ref aX8_row, .int (i32 m_isSpent), .int (i32 m_found), .ref aX8_sumMany, .ref aX8_sumShares, .ref aX8_sumSet, .ref aX8_taken, .ref aX8_restUp, .ref aX8_restDown, .int (i32 m_fewest), .int (i32 m_wishes), .ref aX8_wished, .ref aX8_far, .ref aX8_queue, .int (i32 m_divided), .ref aX8_divisors, .ref aX8_least, .long (i64 m_pairOne), .long (i64 m_pairTwo), .long (i64 m_sumUp), .long (i64 m_sumDown)])), (aX8_sumMany, aI X.cI 2000 m_sumMany), (aX8_sumShares, aI X.cI 12000 m_sumShares)]) [] [0, 1, 2] rfl rfl rfl (by decide) (by decide) (by decide) wM_X8_60 wT_X8_in wZ_X8 wC_X8_in 3 rfl (by decide +kernel) (by rw [hR]; exact ⟨by show 1 + 1 ≤ 2; omega, by show 8 + (6 + 11) + 100 * 1 ≤ 100 * 2; omega⟩) (by rw [hR]; exact ⟨Nat.le_refl _, Nat.le_refl _⟩) (Nat.le_of_ble_eq_true rfl) rfl dX8_sum_66 (fun rv w1 hq => ?_)
          obtain ⟨x66, rfl, rfl, rx66, h⟩ := hq
          show Wat X 0 0 69 [(0, .ref hX8), (1, .int (i32 l1)), (2, .int (i32 l2))] [.int (i32 x66)] [(hX8, .inr (7, [.ref aX8_ups, .ref aX8_downs, .int (i32 m_many), .ref aX8_row, .int (i32 m_isSpent), .int (i32 m_found), .ref aX8_sumMany, .ref aX8_sumShares, .ref aX8_sumSet, .ref aX8_taken, .ref aX8_restUp, .ref aX8_restDown, .int (i32 m_fewest), .int (i32 m_wishes), .ref aX8_wished, .ref aX8_far, .ref aX8_queue, .int (i32 m_divided), .ref aX8_divisors, .ref aX8_least, .long (i64 m_pairOne), .long (i64 m_pairTwo), .long (i64 m_sumUp), .long (i64 m_sumDown)])), (aX8_sumMany, aI X.cI 2000 m_sumMany), (aX8_sumShares, aI X.cI 12000 m_sumShares)]
          refine q_if_eq g (17) 86 rx66 (by decide) dX8_sum_69 (fun b69 => ?_) (fun b69 => ?_)
          · replace h := h.1 b69
            refine q_bipush g (-4) (by decide) (by decide) dX8_sum_86 ?_
            refine q_lv (lv' := []) [] rfl ?_
            exact s_X8_sum_88 g hR hX8 aX8_ups aX8_downs m_many aX8_row m_isSpent aX8_sumMany aX8_sumShares aX8_sumSet aX8_taken aX8_restUp aX8_restDown m_fewest m_wishes aX8_wished aX8_far aX8_queue m_divided aX8_divisors aX8_least m_pairOne m_pairTwo m_sumUp m_sumDown m_found m_sumMany m_sumShares r_m_found r_m_sumMany r_m_sumShares Q hF (-4) (r32_lit _ (by decide)) h
          replace h := h.2 b69
          refine q_aload_n g 0 0 rfl dX8_sum_72 ?_
          refine q_get (C := RX8) (T := TX8) (N := 24) g 27 inX8 0 7 rfl rfl (by decide) wF_X8_27 rfl dX8_sum_73 ?_
          refine q_bipush g (6) (by decide) (by decide) dX8_sum_76 ?_
          refine q_iload_n g 1 1 rfl dX8_sum_78 ?_
          obtain ⟨c79, h⟩ := h
          refine q_imul g dX8_sum_79 ?_
          refine q_iload_n g 2 2 rfl dX8_sum_80 ?_
          obtain ⟨c81, h⟩ := h
          refine q_iadd g dX8_sum_81 ?_
          obtain ⟨c82, h⟩ := h
          obtain ⟨e82, h⟩ := h
          refine q_iald g 2 rfl c82 e82 (by decide) dX8_sum_82 ?_
          refine q_goto g (5) 88 (by decide) dX8_sum_83 ?_
          refine q_lv (lv' := []) [] rfl ?_
          exact s_X8_sum_88 g hR hX8 aX8_ups aX8_downs m_many aX8_row m_isSpent aX8_sumMany aX8_sumShares aX8_sumSet aX8_taken aX8_restUp aX8_restDown m_fewest m_wishes aX8_wished aX8_far aX8_queue m_divided aX8_divisors aX8_least m_pairOne m_pairTwo m_sumUp m_sumDown m_found m_sumMany m_sumShares r_m_found r_m_sumMany r_m_sumShares Q hF (m_sumShares ((6 * l1) + l2)) (r_m_sumShares _) h
        replace h := h.2 b42
        refine q_aload_n g 0 0 rfl dX8_sum_45 ?_
        refine q_get (C := RX8) (T := TX8) (N := 24) g 24 inX8 0 6 rfl rfl (by decide) wF_X8_24 rfl dX8_sum_46 ?_
        refine q_iload_n g 1 1 rfl dX8_sum_49 ?_
        obtain ⟨c50, h⟩ := h
        obtain ⟨e50, h⟩ := h
        refine q_iald g 1 rfl c50 e50 (by decide) dX8_sum_50 ?_
        refine q_goto g (37) 88 (by decide) dX8_sum_51 ?_
        refine q_lv (lv' := []) [] rfl ?_
        exact s_X8_sum_88 g hR hX8 aX8_ups aX8_downs m_many aX8_row m_isSpent aX8_sumMany aX8_sumShares aX8_sumSet aX8_taken aX8_restUp aX8_restDown m_fewest m_wishes aX8_wished aX8_far aX8_queue m_divided aX8_divisors aX8_least m_pairOne m_pairTwo m_sumUp m_sumDown m_found m_sumMany m_sumShares r_m_found r_m_sumMany r_m_sumShares Q hF (m_sumMany l1) (r_m_sumMany _) h
      replace h := h.2 b34
      refine q_bipush g (-4) (by decide) (by decide) dX8_sum_37 ?_
      exact q_iret g hF ⟨(-4), rfl, rfl, (r32_lit _ (by decide)), h⟩ dX8_sum_39
    replace h := h.2 b15
    refine q_bipush g (-2) (by decide) (by decide) dX8_sum_18 ?_
    exact q_iret g hF ⟨(-2), rfl, rfl, (r32_lit _ (by decide)), h⟩ dX8_sum_20
  replace h := h.2 b6
  refine q_lv (lv' := []) [] rfl ?_
  exact s_X8_sum_9 g hR hX8 aX8_ups aX8_downs m_many aX8_row m_isSpent aX8_sumMany aX8_sumShares aX8_sumSet aX8_taken aX8_restUp aX8_restDown m_fewest m_wishes aX8_wished aX8_far aX8_queue m_divided aX8_divisors aX8_least m_pairOne m_pairTwo m_sumUp m_sumDown m_found m_sumMany m_sumShares r_m_found r_m_sumMany r_m_sumShares Q hF h
theorem dX8_sums_0 : decode cX8_sums 0 = .ok (.iload_n 1, 1) := by decide +kernel
theorem dX8_sums_1 : decode cX8_sums 1 = .ok (.invokestatic 68, 3) := by decide +kernel
theorem dX8_sums_4 : decode cX8_sums 4 = .ok (.ifCond .eq 29, 3) := by decide +kernel
theorem dX8_sums_7 : decode cX8_sums 7 = .ok (.iload_n 2, 1) := by decide +kernel
theorem dX8_sums_8 : decode cX8_sums 8 = .ok (.i2l, 1) := by decide +kernel
theorem dX8_sums_9 : decode cX8_sums 9 = .ok (.ldc2_w 89, 3) := by decide +kernel
theorem dX8_sums_12 : decode cX8_sums 12 = .ok (.ldc2_w 144, 3) := by decide +kernel
theorem dX8_sums_15 : decode cX8_sums 15 = .ok (.invokestatic 60, 3) := by decide +kernel
theorem dX8_sums_18 : decode cX8_sums 18 = .ok (.ifCond .eq 15, 3) := by decide +kernel
theorem dX8_sums_21 : decode cX8_sums 21 = .ok (.iload_n 3, 1) := by decide +kernel
theorem dX8_sums_22 : decode cX8_sums 22 = .ok (.i2l, 1) := by decide +kernel
theorem dX8_sums_23 : decode cX8_sums 23 = .ok (.lconst 1, 1) := by decide +kernel
theorem dX8_sums_24 : decode cX8_sums 24 = .ok (.ldc2_w 146, 3) := by decide +kernel
theorem dX8_sums_27 : decode cX8_sums 27 = .ok (.invokestatic 60, 3) := by decide +kernel
theorem dX8_sums_30 : decode cX8_sums 30 = .ok (.ifCond .ne 5, 3) := by decide +kernel
theorem dX8_sums_33 : decode cX8_sums 33 = .ok (.iconst (-1), 1) := by decide +kernel
theorem dX8_sums_34 : decode cX8_sums 34 = .ok (.ireturn, 1) := by decide +kernel
theorem dX8_sums_35 : decode cX8_sums 35 = .ok (.aload_n 0, 1) := by decide +kernel
theorem dX8_sums_36 : decode cX8_sums 36 = .ok (.iload_n 1, 1) := by decide +kernel
theorem dX8_sums_37 : decode cX8_sums 37 = .ok (.invokevirtual 148, 3) := by decide +kernel
theorem dX8_sums_40 : decode cX8_sums 40 = .ok (.ifCond .ne 6, 3) := by decide +kernel
theorem dX8_sums_43 : decode cX8_sums 43 = .ok (.bipush (-2), 2) := by decide +kernel
theorem dX8_sums_45 : decode cX8_sums 45 = .ok (.ireturn, 1) := by decide +kernel
theorem dX8_sums_46 : decode cX8_sums 46 = .ok (.aload_n 0, 1) := by decide +kernel
theorem dX8_sums_47 : decode cX8_sums 47 = .ok (.aload_n 0, 1) := by decide +kernel
theorem dX8_sums_48 : decode cX8_sums 48 = .ok (.getfield 7, 3) := by decide +kernel
theorem dX8_sums_51 : decode cX8_sums 51 = .ok (.iload_n 1, 1) := by decide +kernel
theorem dX8_sums_52 : decode cX8_sums 52 = .ok (.iaload, 1) := by decide +kernel
theorem dX8_sums_53 : decode cX8_sums 53 = .ok (.i2l, 1) := by decide +kernel
theorem dX8_sums_54 : decode cX8_sums 54 = .ok (.aload_n 0, 1) := by decide +kernel
theorem dX8_sums_55 : decode cX8_sums 55 = .ok (.getfield 13, 3) := by decide +kernel
theorem dX8_sums_58 : decode cX8_sums 58 = .ok (.iload_n 1, 1) := by decide +kernel
theorem dX8_sums_59 : decode cX8_sums 59 = .ok (.iaload, 1) := by decide +kernel
theorem dX8_sums_60 : decode cX8_sums 60 = .ok (.i2l, 1) := by decide +kernel
theorem dX8_sums_61 : decode cX8_sums 61 = .ok (.iload_n 2, 1) := by decide +kernel
theorem dX8_sums_62 : decode cX8_sums 62 = .ok (.iload_n 3, 1) := by decide +kernel
theorem dX8_sums_63 : decode cX8_sums 63 = .ok (.iconst 1, 1) := by decide +kernel
theorem dX8_sums_64 : decode cX8_sums 64 = .ok (.invokevirtual 151, 3) := by decide +kernel
theorem dX8_sums_67 : decode cX8_sums 67 = .ok (.aload_n 0, 1) := by decide +kernel
theorem dX8_sums_68 : decode cX8_sums 68 = .ok (.getfield 20, 3) := by decide +kernel
theorem dX8_sums_71 : decode cX8_sums 71 = .ok (.ifCond .ge 8, 3) := by decide +kernel
theorem dX8_sums_74 : decode cX8_sums 74 = .ok (.bipush (-5), 2) := by decide +kernel
theorem dX8_sums_76 : decode cX8_sums 76 = .ok (.goto 7, 3) := by decide +kernel
theorem dX8_sums_79 : decode cX8_sums 79 = .ok (.aload_n 0, 1) := by decide +kernel
theorem dX8_sums_80 : decode cX8_sums 80 = .ok (.getfield 20, 3) := by decide +kernel
theorem dX8_sums_83 : decode cX8_sums 83 = .ok (.ireturn, 1) := by decide +kernel
abbrev po_X8_sums (cI cJ : ClassId) (hX8 : Nat) (aX8_ups : Nat) (aX8_downs : Nat) (m_many : Int) (aX8_row : Nat) (m_isSpent : Int) (aX8_sumMany : Nat) (aX8_sumShares : Nat) (aX8_sumSet : Nat) (aX8_taken : Nat) (aX8_restUp : Nat) (aX8_restDown : Nat) (m_wishes : Int) (aX8_wished : Nat) (aX8_far : Nat) (aX8_queue : Nat) (m_divided : Int) (aX8_divisors : Nat) (aX8_least : Nat) (m_pairOne : Int) (m_pairTwo : Int) (m_sumUp : Int) (m_sumDown : Int) (m_ups : Int → Int) (m_downs : Int → Int) (Q : Int → Int → (Int → Int) → (Int → Int) → (Int → Int) → (Int → Int) → (Int → Int) → (Int → Int) → Int → Prop) : Option Value → va_W → Prop := fun rv w1 => ∃ (r0 : Int) (m_found : Int) (m_sumMany : Int → Int) (m_sumShares : Int → Int) (m_sumSet : Int → Int) (m_taken : Int → Int) (m_restUp : Int → Int) (m_restDown : Int → Int) (m_fewest : Int), rv = some (.int (i32 r0)) ∧ w1 = [(hX8, .inr (7, [.ref aX8_ups, .ref aX8_downs, .int (i32 m_many), .ref aX8_row, .int (i32 m_isSpent), .int (i32 m_found), .ref aX8_sumMany, .ref aX8_sumShares, .ref aX8_sumSet, .ref aX8_taken, .ref aX8_restUp, .ref aX8_restDown, .int (i32 m_fewest), .int (i32 m_wishes), .ref aX8_wished, .ref aX8_far, .ref aX8_queue, .int (i32 m_divided), .ref aX8_divisors, .ref aX8_least, .long (i64 m_pairOne), .long (i64 m_pairTwo), .long (i64 m_sumUp), .long (i64 m_sumDown)])), (aX8_ups, aI cI 8 m_ups), (aX8_downs, aI cI 8 m_downs), (aX8_sumMany, aI cI 2000 m_sumMany), (aX8_sumShares, aI cI 12000 m_sumShares), (aX8_sumSet, aL cJ 2000 m_sumSet), (aX8_taken, aI cI 7 m_taken), (aX8_restUp, aL cJ 8 m_restUp), (aX8_restDown, aL cJ 8 m_restDown)] ∧ r32 r0 ∧ r32 m_found ∧ rr32 m_sumMany ∧ rr32 m_sumShares ∧ rr64 m_sumSet ∧ rr32 m_taken ∧ rr64 m_restUp ∧ rr64 m_restDown ∧ r32 m_fewest ∧ Q r0 m_found m_sumMany m_sumShares m_sumSet m_taken m_restUp m_restDown m_fewest
def wp_X8_sums_33 (Q : Int → Int → (Int → Int) → (Int → Int) → (Int → Int) → (Int → Int) → (Int → Int) → (Int → Int) → Int → Prop) (m_ups : Int → Int) (m_downs : Int → Int) (m_found : Int) (m_sumMany : Int → Int) (m_sumShares : Int → Int) (m_sumSet : Int → Int) (m_taken : Int → Int) (m_restUp : Int → Int) (m_restDown : Int → Int) (m_fewest : Int) : Prop := Q (-1) m_found m_sumMany m_sumShares m_sumSet m_taken m_restUp m_restDown m_fewest
set_option maxHeartbeats 4000000 in
set_option maxRecDepth 100000 in
theorem s_X8_sums_33 {X : Cx} (g : Gd X cX8_sums RX8 (some .int) 4) (hR : X.R = rmL 3 0 0) (hX8 : Nat) (aX8_ups : Nat) (aX8_downs : Nat) (m_many : Int) (aX8_row : Nat) (m_isSpent : Int) (aX8_sumMany : Nat) (aX8_sumShares : Nat) (aX8_sumSet : Nat) (aX8_taken : Nat) (aX8_restUp : Nat) (aX8_restDown : Nat) (m_wishes : Int) (aX8_wished : Nat) (aX8_far : Nat) (aX8_queue : Nat) (m_divided : Int) (aX8_divisors : Nat) (aX8_least : Nat) (m_pairOne : Int) (m_pairTwo : Int) (m_sumUp : Int) (m_sumDown : Int) (m_ups : Int → Int) (m_downs : Int → Int) (r_m_ups : rr32 m_ups) (r_m_downs : rr32 m_downs) (Q : Int → Int → (Int → Int) → (Int → Int) → (Int → Int) → (Int → Int) → (Int → Int) → (Int → Int) → Int → Prop) (hF : FQ X 0 0 (po_X8_sums X.cI X.cJ hX8 aX8_ups aX8_downs m_many aX8_row m_isSpent aX8_sumMany aX8_sumShares aX8_sumSet aX8_taken aX8_restUp aX8_restDown m_wishes aX8_wished aX8_far aX8_queue m_divided aX8_divisors aX8_least m_pairOne m_pairTwo m_sumUp m_sumDown m_ups m_downs Q)) : ∀ (m_found : Int) (m_sumMany : Int → Int) (m_sumShares : Int → Int) (m_sumSet : Int → Int) (m_taken : Int → Int) (m_restUp : Int → Int) (m_restDown : Int → Int) (m_fewest : Int), r32 m_found → rr32 m_sumMany → rr32 m_sumShares → rr64 m_sumSet → rr32 m_taken → rr64 m_restUp → rr64 m_restDown → r32 m_fewest → wp_X8_sums_33 Q m_ups m_downs m_found m_sumMany m_sumShares m_sumSet m_taken m_restUp m_restDown m_fewest → Wat X 0 0 33 [] [] [(hX8, .inr (7, [.ref aX8_ups, .ref aX8_downs, .int (i32 m_many), .ref aX8_row, .int (i32 m_isSpent), .int (i32 m_found), .ref aX8_sumMany, .ref aX8_sumShares, .ref aX8_sumSet, .ref aX8_taken, .ref aX8_restUp, .ref aX8_restDown, .int (i32 m_fewest), .int (i32 m_wishes), .ref aX8_wished, .ref aX8_far, .ref aX8_queue, .int (i32 m_divided), .ref aX8_divisors, .ref aX8_least, .long (i64 m_pairOne), .long (i64 m_pairTwo), .long (i64 m_sumUp), .long (i64 m_sumDown)])), (aX8_ups, aI X.cI 8 m_ups), (aX8_downs, aI X.cI 8 m_downs), (aX8_sumMany, aI X.cI 2000 m_sumMany), (aX8_sumShares, aI X.cI 12000 m_sumShares), (aX8_sumSet, aL X.cJ 2000 m_sumSet), (aX8_taken, aI X.cI 7 m_taken), (aX8_restUp, aL X.cJ 8 m_restUp), (aX8_restDown, aL X.cJ 8 m_restDown)] := by
  intro m_found m_sumMany m_sumShares m_sumSet m_taken m_restUp m_restDown m_fewest r_m_found r_m_sumMany r_m_sumShares r_m_sumSet r_m_taken r_m_restUp r_m_restDown r_m_fewest h
  rw [wp_X8_sums_33] at h
  refine q_iconst g (-1) dX8_sums_33 ?_
  exact q_iret g hF ⟨(-1), m_found, m_sumMany, m_sumShares, m_sumSet, m_taken, m_restUp, m_restDown, m_fewest, rfl, rfl, (r32_lit _ (by decide)), r_m_found, r_m_sumMany, r_m_sumShares, r_m_sumSet, r_m_taken, r_m_restUp, r_m_restDown, r_m_fewest, h⟩ dX8_sums_34
def wp_X8_sums_83 (Q : Int → Int → (Int → Int) → (Int → Int) → (Int → Int) → (Int → Int) → (Int → Int) → (Int → Int) → Int → Prop) (m_ups : Int → Int) (m_downs : Int → Int) (m_found : Int) (m_sumMany : Int → Int) (m_sumShares : Int → Int) (m_sumSet : Int → Int) (m_taken : Int → Int) (m_restUp : Int → Int) (m_restDown : Int → Int) (m_fewest : Int) (k0 : Int) : Prop := Q k0 m_found m_sumMany m_sumShares m_sumSet m_taken m_restUp m_restDown m_fewest
set_option maxHeartbeats 4000000 in
set_option maxRecDepth 100000 in
theorem s_X8_sums_83 {X : Cx} (g : Gd X cX8_sums RX8 (some .int) 4) (hR : X.R = rmL 3 0 0) (hX8 : Nat) (aX8_ups : Nat) (aX8_downs : Nat) (m_many : Int) (aX8_row : Nat) (m_isSpent : Int) (aX8_sumMany : Nat) (aX8_sumShares : Nat) (aX8_sumSet : Nat) (aX8_taken : Nat) (aX8_restUp : Nat) (aX8_restDown : Nat) (m_wishes : Int) (aX8_wished : Nat) (aX8_far : Nat) (aX8_queue : Nat) (m_divided : Int) (aX8_divisors : Nat) (aX8_least : Nat) (m_pairOne : Int) (m_pairTwo : Int) (m_sumUp : Int) (m_sumDown : Int) (m_ups : Int → Int) (m_downs : Int → Int) (r_m_ups : rr32 m_ups) (r_m_downs : rr32 m_downs) (Q : Int → Int → (Int → Int) → (Int → Int) → (Int → Int) → (Int → Int) → (Int → Int) → (Int → Int) → Int → Prop) (hF : FQ X 0 0 (po_X8_sums X.cI X.cJ hX8 aX8_ups aX8_downs m_many aX8_row m_isSpent aX8_sumMany aX8_sumShares aX8_sumSet aX8_taken aX8_restUp aX8_restDown m_wishes aX8_wished aX8_far aX8_queue m_divided aX8_divisors aX8_least m_pairOne m_pairTwo m_sumUp m_sumDown m_ups m_downs Q)) : ∀ (m_found : Int) (m_sumMany : Int → Int) (m_sumShares : Int → Int) (m_sumSet : Int → Int) (m_taken : Int → Int) (m_restUp : Int → Int) (m_restDown : Int → Int) (m_fewest : Int) (k0 : Int), r32 m_found → rr32 m_sumMany → rr32 m_sumShares → rr64 m_sumSet → rr32 m_taken → rr64 m_restUp → rr64 m_restDown → r32 m_fewest → r32 k0 → wp_X8_sums_83 Q m_ups m_downs m_found m_sumMany m_sumShares m_sumSet m_taken m_restUp m_restDown m_fewest k0 → Wat X 0 0 83 [] [.int (i32 k0)] [(hX8, .inr (7, [.ref aX8_ups, .ref aX8_downs, .int (i32 m_many), .ref aX8_row, .int (i32 m_isSpent), .int (i32 m_found), .ref aX8_sumMany, .ref aX8_sumShares, .ref aX8_sumSet, .ref aX8_taken, .ref aX8_restUp, .ref aX8_restDown, .int (i32 m_fewest), .int (i32 m_wishes), .ref aX8_wished, .ref aX8_far, .ref aX8_queue, .int (i32 m_divided), .ref aX8_divisors, .ref aX8_least, .long (i64 m_pairOne), .long (i64 m_pairTwo), .long (i64 m_sumUp), .long (i64 m_sumDown)])), (aX8_ups, aI X.cI 8 m_ups), (aX8_downs, aI X.cI 8 m_downs), (aX8_sumMany, aI X.cI 2000 m_sumMany), (aX8_sumShares, aI X.cI 12000 m_sumShares), (aX8_sumSet, aL X.cJ 2000 m_sumSet), (aX8_taken, aI X.cI 7 m_taken), (aX8_restUp, aL X.cJ 8 m_restUp), (aX8_restDown, aL X.cJ 8 m_restDown)] := by
  intro m_found m_sumMany m_sumShares m_sumSet m_taken m_restUp m_restDown m_fewest k0 r_m_found r_m_sumMany r_m_sumShares r_m_sumSet r_m_taken r_m_restUp r_m_restDown r_m_fewest r_k0 h
  rw [wp_X8_sums_83] at h
  exact q_iret g hF ⟨k0, m_found, m_sumMany, m_sumShares, m_sumSet, m_taken, m_restUp, m_restDown, m_fewest, rfl, rfl, r_k0, r_m_found, r_m_sumMany, r_m_sumShares, r_m_sumSet, r_m_taken, r_m_restUp, r_m_restDown, r_m_fewest, h⟩ dX8_sums_83
def wp_X8_sums (Q : Int → Int → (Int → Int) → (Int → Int) → (Int → Int) → (Int → Int) → (Int → Int) → (Int → Int) → Int → Prop) (m_ups : Int → Int) (m_downs : Int → Int) (m_found : Int) (m_sumMany : Int → Int) (m_sumShares : Int → Int) (m_sumSet : Int → Int) (m_taken : Int → Int) (m_restUp : Int → Int) (m_restDown : Int → Int) (m_fewest : Int) (l1 : Int) (l2 : Int) (l3 : Int) : Prop := wp_X8_isRegister (fun (x1 : Int) => ((x1 = 0 → wp_X8_sums_33 Q m_ups m_downs m_found m_sumMany m_sumShares m_sumSet m_taken m_restUp m_restDown m_fewest) ∧
  (¬ (x1 = 0) → wp_X8_in (fun (x15 : Int) => ((x15 = 0 → wp_X8_sums_33 Q m_ups m_downs m_found m_sumMany m_sumShares m_sumSet m_taken m_restUp m_restDown m_fewest) ∧
  (¬ (x15 = 0) → wp_X8_in (fun (x27 : Int) => ((¬ x27 = 0 → wp_X8_isPart (fun (x37 : Int) => ((¬ x37 = 0 → (0 ≤ l1 ∧ l1 < 8 ∧ 0 ≤ l1 ∧ l1 < 8 ∧ wp_X8_findSums (fun (m_found_64 : Int) (m_sumMany_64 : Int → Int) (m_sumShares_64 : Int → Int) (m_sumSet_64 : Int → Int) (m_taken_64 : Int → Int) (m_restUp_64 : Int → Int) (m_restDown_64 : Int → Int) (m_fewest_64 : Int) => ((0 ≤ m_found_64 → wp_X8_sums_83 Q m_ups m_downs m_found_64 m_sumMany_64 m_sumShares_64 m_sumSet_64 m_taken_64 m_restUp_64 m_restDown_64 m_fewest_64 m_found_64) ∧
  (¬ (0 ≤ m_found_64) → wp_X8_sums_83 Q m_ups m_downs m_found_64 m_sumMany_64 m_sumShares_64 m_sumSet_64 m_taken_64 m_restUp_64 m_restDown_64 m_fewest_64 (-5)))) m_found m_sumMany m_sumShares m_sumSet m_taken m_restUp m_restDown m_fewest (m_ups l1) (m_downs l1) l2 l3 1)) ∧
  (x37 = 0 → Q (-2) m_found m_sumMany m_sumShares m_sumSet m_taken m_restUp m_restDown m_fewest))) m_ups m_downs l1) ∧
  (x27 = 0 → wp_X8_sums_33 Q m_ups m_downs m_found m_sumMany m_sumShares m_sumSet m_taken m_restUp m_restDown m_fewest))) l3 1 6))) l2 2 60))) l1
set_option maxHeartbeats 4000000 in
set_option maxRecDepth 100000 in
theorem c_X8_sums (l : Launch) (D : va_G) (cI cJ : ClassId) (zt : Nat) (hX8 : Nat) (aX8_ups : Nat) (aX8_downs : Nat) (m_many : Int) (aX8_row : Nat) (m_isSpent : Int) (m_found : Int) (aX8_sumMany : Nat) (aX8_sumShares : Nat) (aX8_sumSet : Nat) (aX8_taken : Nat) (aX8_restUp : Nat) (aX8_restDown : Nat) (m_fewest : Int) (m_wishes : Int) (aX8_wished : Nat) (aX8_far : Nat) (aX8_queue : Nat) (m_divided : Int) (aX8_divisors : Nat) (aX8_least : Nat) (m_pairOne : Int) (m_pairTwo : Int) (m_sumUp : Int) (m_sumDown : Int) (m_ups : Int → Int) (m_downs : Int → Int) (m_sumMany : Int → Int) (m_sumShares : Int → Int) (m_sumSet : Int → Int) (m_taken : Int → Int) (m_restUp : Int → Int) (m_restDown : Int → Int) (l1 : Int) (l2 : Int) (l3 : Int) (Q : Int → Int → (Int → Int) → (Int → Int) → (Int → Int) → (Int → Int) → (Int → Int) → (Int → Int) → Int → Prop) (r_m_ups : rr32 m_ups) (r_m_downs : rr32 m_downs) (r_m_found : r32 m_found) (r_m_sumMany : rr32 m_sumMany) (r_m_sumShares : rr32 m_sumShares) (r_m_sumSet : rr64 m_sumSet) (r_m_taken : rr32 m_taken) (r_m_restUp : rr64 m_restUp) (r_m_restDown : rr64 m_restDown) (r_m_fewest : r32 m_fewest) (r_l1 : r32 l1) (r_l2 : r32 l2) (r_l3 : r32 l3) (h : wp_X8_sums Q m_ups m_downs m_found m_sumMany m_sumShares m_sumSet m_taken m_restUp m_restDown m_fewest l1 l2 l3) : Ct l D cI cJ zt yX8_sums cX8_sums 4 (some .int) 3 0 0 [.ref hX8, .int (i32 l1), .int (i32 l2), .int (i32 l3)] [(hX8, .inr (7, [.ref aX8_ups, .ref aX8_downs, .int (i32 m_many), .ref aX8_row, .int (i32 m_isSpent), .int (i32 m_found), .ref aX8_sumMany, .ref aX8_sumShares, .ref aX8_sumSet, .ref aX8_taken, .ref aX8_restUp, .ref aX8_restDown, .int (i32 m_fewest), .int (i32 m_wishes), .ref aX8_wished, .ref aX8_far, .ref aX8_queue, .int (i32 m_divided), .ref aX8_divisors, .ref aX8_least, .long (i64 m_pairOne), .long (i64 m_pairTwo), .long (i64 m_sumUp), .long (i64 m_sumDown)])), (aX8_ups, aI cI 8 m_ups), (aX8_downs, aI cI 8 m_downs), (aX8_sumMany, aI cI 2000 m_sumMany), (aX8_sumShares, aI cI 12000 m_sumShares), (aX8_sumSet, aL cJ 2000 m_sumSet), (aX8_taken, aI cI 7 m_taken), (aX8_restUp, aL cJ 8 m_restUp), (aX8_restDown, aL cJ 8 m_restDown)] (po_X8_sums cI cJ hX8 aX8_ups aX8_downs m_many aX8_row m_isSpent aX8_sumMany aX8_sumShares aX8_sumSet aX8_taken aX8_restUp aX8_restDown m_wishes aX8_wished aX8_far aX8_queue m_divided aX8_divisors aX8_least m_pairOne m_pairTwo m_sumUp m_sumDown m_ups m_downs Q) := by
  refine ct_of (by decide +kernel) (Nat.le_of_ble_eq_true rfl) (fun X hl hDD hcI hcJ hzt hR hF hnm g => ?_)
  subst hl; subst hDD; subst hcI; subst hcJ; subst hzt
  show Wat X 0 0 0 [(0, .ref hX8), (1, .int (i32 l1)), (2, .int (i32 l2)), (3, .int (i32 l3))] [] [(hX8, .inr (7, [.ref aX8_ups, .ref aX8_downs, .int (i32 m_many), .ref aX8_row, .int (i32 m_isSpent), .int (i32 m_found), .ref aX8_sumMany, .ref aX8_sumShares, .ref aX8_sumSet, .ref aX8_taken, .ref aX8_restUp, .ref aX8_restDown, .int (i32 m_fewest), .int (i32 m_wishes), .ref aX8_wished, .ref aX8_far, .ref aX8_queue, .int (i32 m_divided), .ref aX8_divisors, .ref aX8_least, .long (i64 m_pairOne), .long (i64 m_pairTwo), .long (i64 m_sumUp), .long (i64 m_sumDown)])), (aX8_ups, aI X.cI 8 m_ups), (aX8_downs, aI X.cI 8 m_downs), (aX8_sumMany, aI X.cI 2000 m_sumMany), (aX8_sumShares, aI X.cI 12000 m_sumShares), (aX8_sumSet, aL X.cJ 2000 m_sumSet), (aX8_taken, aI X.cI 7 m_taken), (aX8_restUp, aL X.cJ 8 m_restUp), (aX8_restDown, aL X.cJ 8 m_restDown)]
  replace g : Gd X cX8_sums RX8 (some .int) 4 := g
  rw [wp_X8_sums] at h
  refine q_iload_n g 1 1 rfl dX8_sums_0 ?_
  refine q_callS (lev := 2) (mc := 0) (ms := 0) (As := [.int (i32 l1)]) g 68 (c_X8_isRegister X.l X.D X.cI X.cJ X.zt l1 _ r_l1 h) (wr := [(hX8, .inr (7, [.ref aX8_ups, .ref aX8_downs, .int (i32 m_many), .ref aX8_row, .int (i32 m_isSpent), .int (i32 m_found), .ref aX8_sumMany, .ref aX8_sumShares, .ref aX8_sumSet, .ref aX8_taken, .ref aX8_restUp, .ref aX8_restDown, .int (i32 m_fewest), .int (i32 m_wishes), .ref aX8_wished, .ref aX8_far, .ref aX8_queue, .int (i32 m_divided), .ref aX8_divisors, .ref aX8_least, .long (i64 m_pairOne), .long (i64 m_pairTwo), .long (i64 m_sumUp), .long (i64 m_sumDown)])), (aX8_ups, aI X.cI 8 m_ups), (aX8_downs, aI X.cI 8 m_downs), (aX8_sumMany, aI X.cI 2000 m_sumMany), (aX8_sumShares, aI X.cI 12000 m_sumShares), (aX8_sumSet, aL X.cJ 2000 m_sumSet), (aX8_taken, aI X.cI 7 m_taken), (aX8_restUp, aL X.cJ 8 m_restUp), (aX8_restDown, aL X.cJ 8 m_restDown)]) [] [0, 1, 2, 3, 4, 5, 6, 7, 8] rfl rfl rfl (by decide) (by decide) (by decide) wM_X8_68 wT_X8_isRegister wZ_X8 wC_X8_isRegister 1 rfl (by decide +kernel) (by rw [hR]; exact ⟨by show 2 + 1 ≤ 3; omega, by show 8 + (1 + 11) + 100 * 2 ≤ 100 * 3; omega⟩) (by rw [hR]; exact ⟨Nat.le_refl _, Nat.le_refl _⟩) (Nat.le_of_ble_eq_true rfl) rfl dX8_sums_1 (fun rv w1 hq => ?_)
  obtain ⟨x1, rfl, rfl, rx1, h⟩ := hq
  show Wat X 0 0 4 [(0, .ref hX8), (1, .int (i32 l1)), (2, .int (i32 l2)), (3, .int (i32 l3))] [.int (i32 x1)] [(hX8, .inr (7, [.ref aX8_ups, .ref aX8_downs, .int (i32 m_many), .ref aX8_row, .int (i32 m_isSpent), .int (i32 m_found), .ref aX8_sumMany, .ref aX8_sumShares, .ref aX8_sumSet, .ref aX8_taken, .ref aX8_restUp, .ref aX8_restDown, .int (i32 m_fewest), .int (i32 m_wishes), .ref aX8_wished, .ref aX8_far, .ref aX8_queue, .int (i32 m_divided), .ref aX8_divisors, .ref aX8_least, .long (i64 m_pairOne), .long (i64 m_pairTwo), .long (i64 m_sumUp), .long (i64 m_sumDown)])), (aX8_ups, aI X.cI 8 m_ups), (aX8_downs, aI X.cI 8 m_downs), (aX8_sumMany, aI X.cI 2000 m_sumMany), (aX8_sumShares, aI X.cI 12000 m_sumShares), (aX8_sumSet, aL X.cJ 2000 m_sumSet), (aX8_taken, aI X.cI 7 m_taken), (aX8_restUp, aL X.cJ 8 m_restUp), (aX8_restDown, aL X.cJ 8 m_restDown)]
  refine q_if_eq g (29) 33 rx1 (by decide) dX8_sums_4 (fun b4 => ?_) (fun b4 => ?_)
  · replace h := h.1 b4
    refine q_lv (lv' := []) [] rfl ?_
    exact s_X8_sums_33 g hR hX8 aX8_ups aX8_downs m_many aX8_row m_isSpent aX8_sumMany aX8_sumShares aX8_sumSet aX8_taken aX8_restUp aX8_restDown m_wishes aX8_wished aX8_far aX8_queue m_divided aX8_divisors aX8_least m_pairOne m_pairTwo m_sumUp m_sumDown m_ups m_downs r_m_ups r_m_downs Q hF m_found m_sumMany m_sumShares m_sumSet m_taken m_restUp m_restDown m_fewest r_m_found r_m_sumMany r_m_sumShares r_m_sumSet r_m_taken r_m_restUp r_m_restDown r_m_fewest h
  replace h := h.2 b4
  refine q_iload_n g 2 2 rfl dX8_sums_7 ?_
  refine q_i2l g r_l2 dX8_sums_8 ?_
  refine q_ldc2 (w := 2) g 89 (2) (by decide +kernel) wL_X8_89 dX8_sums_9 ?_
  refine q_ldc2 (w := 60) g 144 (60) (by decide +kernel) wL_X8_144 dX8_sums_12 ?_
  refine q_callS (lev := 1) (mc := 0) (ms := 0) (As := [.long (i64 l2), .long (i64 2), .long (i64 60)]) g 60 (c_X8_in X.l X.D X.cI X.cJ X.zt l2 2 60 _ (r32_64 r_l2) (r64_lit _ (by decide)) (r64_lit _ (by decide)) h) (wr := [(hX8, .inr (7, [.ref aX8_ups, .ref aX8_downs, .int (i32 m_many), .ref aX8_row, .int (i32 m_isSpent), .int (i32 m_found), .ref aX8_sumMany, .ref aX8_sumShares, .ref aX8_sumSet, .ref aX8_taken, .ref aX8_restUp, .ref aX8_restDown, .int (i32 m_fewest), .int (i32 m_wishes), .ref aX8_wished, .ref aX8_far, .ref aX8_queue, .int (i32 m_divided), .ref aX8_divisors, .ref aX8_least, .long (i64 m_pairOne), .long (i64 m_pairTwo), .long (i64 m_sumUp), .long (i64 m_sumDown)])), (aX8_ups, aI X.cI 8 m_ups), (aX8_downs, aI X.cI 8 m_downs), (aX8_sumMany, aI X.cI 2000 m_sumMany), (aX8_sumShares, aI X.cI 12000 m_sumShares), (aX8_sumSet, aL X.cJ 2000 m_sumSet), (aX8_taken, aI X.cI 7 m_taken), (aX8_restUp, aL X.cJ 8 m_restUp), (aX8_restDown, aL X.cJ 8 m_restDown)]) [] [0, 1, 2, 3, 4, 5, 6, 7, 8] rfl rfl rfl (by decide) (by decide) (by decide) wM_X8_60 wT_X8_in wZ_X8 wC_X8_in 3 rfl (by decide +kernel) (by rw [hR]; exact ⟨by show 1 + 1 ≤ 3; omega, by show 8 + (6 + 11) + 100 * 1 ≤ 100 * 3; omega⟩) (by rw [hR]; exact ⟨Nat.le_refl _, Nat.le_refl _⟩) (Nat.le_of_ble_eq_true rfl) rfl dX8_sums_15 (fun rv w1 hq => ?_)
  obtain ⟨x15, rfl, rfl, rx15, h⟩ := hq
  show Wat X 0 0 18 [(0, .ref hX8), (1, .int (i32 l1)), (2, .int (i32 l2)), (3, .int (i32 l3))] [.int (i32 x15)] [(hX8, .inr (7, [.ref aX8_ups, .ref aX8_downs, .int (i32 m_many), .ref aX8_row, .int (i32 m_isSpent), .int (i32 m_found), .ref aX8_sumMany, .ref aX8_sumShares, .ref aX8_sumSet, .ref aX8_taken, .ref aX8_restUp, .ref aX8_restDown, .int (i32 m_fewest), .int (i32 m_wishes), .ref aX8_wished, .ref aX8_far, .ref aX8_queue, .int (i32 m_divided), .ref aX8_divisors, .ref aX8_least, .long (i64 m_pairOne), .long (i64 m_pairTwo), .long (i64 m_sumUp), .long (i64 m_sumDown)])), (aX8_ups, aI X.cI 8 m_ups), (aX8_downs, aI X.cI 8 m_downs), (aX8_sumMany, aI X.cI 2000 m_sumMany), (aX8_sumShares, aI X.cI 12000 m_sumShares), (aX8_sumSet, aL X.cJ 2000 m_sumSet), (aX8_taken, aI X.cI 7 m_taken), (aX8_restUp, aL X.cJ 8 m_restUp), (aX8_restDown, aL X.cJ 8 m_restDown)]
  refine q_if_eq g (15) 33 rx15 (by decide) dX8_sums_18 (fun b18 => ?_) (fun b18 => ?_)
  · replace h := h.1 b18
    refine q_lv (lv' := []) [] rfl ?_
    exact s_X8_sums_33 g hR hX8 aX8_ups aX8_downs m_many aX8_row m_isSpent aX8_sumMany aX8_sumShares aX8_sumSet aX8_taken aX8_restUp aX8_restDown m_wishes aX8_wished aX8_far aX8_queue m_divided aX8_divisors aX8_least m_pairOne m_pairTwo m_sumUp m_sumDown m_ups m_downs r_m_ups r_m_downs Q hF m_found m_sumMany m_sumShares m_sumSet m_taken m_restUp m_restDown m_fewest r_m_found r_m_sumMany r_m_sumShares r_m_sumSet r_m_taken r_m_restUp r_m_restDown r_m_fewest h
  replace h := h.2 b18
  refine q_iload_n g 3 3 rfl dX8_sums_21 ?_
  refine q_i2l g r_l3 dX8_sums_22 ?_
  refine q_lconst g 1 1 rfl dX8_sums_23 ?_
  refine q_ldc2 (w := 6) g 146 (6) (by decide +kernel) wL_X8_146 dX8_sums_24 ?_
  refine q_callS (lev := 1) (mc := 0) (ms := 0) (As := [.long (i64 l3), .long (i64 1), .long (i64 6)]) g 60 (c_X8_in X.l X.D X.cI X.cJ X.zt l3 1 6 _ (r32_64 r_l3) (r64_lit _ (by decide)) (r64_lit _ (by decide)) h) (wr := [(hX8, .inr (7, [.ref aX8_ups, .ref aX8_downs, .int (i32 m_many), .ref aX8_row, .int (i32 m_isSpent), .int (i32 m_found), .ref aX8_sumMany, .ref aX8_sumShares, .ref aX8_sumSet, .ref aX8_taken, .ref aX8_restUp, .ref aX8_restDown, .int (i32 m_fewest), .int (i32 m_wishes), .ref aX8_wished, .ref aX8_far, .ref aX8_queue, .int (i32 m_divided), .ref aX8_divisors, .ref aX8_least, .long (i64 m_pairOne), .long (i64 m_pairTwo), .long (i64 m_sumUp), .long (i64 m_sumDown)])), (aX8_ups, aI X.cI 8 m_ups), (aX8_downs, aI X.cI 8 m_downs), (aX8_sumMany, aI X.cI 2000 m_sumMany), (aX8_sumShares, aI X.cI 12000 m_sumShares), (aX8_sumSet, aL X.cJ 2000 m_sumSet), (aX8_taken, aI X.cI 7 m_taken), (aX8_restUp, aL X.cJ 8 m_restUp), (aX8_restDown, aL X.cJ 8 m_restDown)]) [] [0, 1, 2, 3, 4, 5, 6, 7, 8] rfl rfl rfl (by decide) (by decide) (by decide) wM_X8_60 wT_X8_in wZ_X8 wC_X8_in 3 rfl (by decide +kernel) (by rw [hR]; exact ⟨by show 1 + 1 ≤ 3; omega, by show 8 + (6 + 11) + 100 * 1 ≤ 100 * 3; omega⟩) (by rw [hR]; exact ⟨Nat.le_refl _, Nat.le_refl _⟩) (Nat.le_of_ble_eq_true rfl) rfl dX8_sums_27 (fun rv w1 hq => ?_)
  obtain ⟨x27, rfl, rfl, rx27, h⟩ := hq
  show Wat X 0 0 30 [(0, .ref hX8), (1, .int (i32 l1)), (2, .int (i32 l2)), (3, .int (i32 l3))] [.int (i32 x27)] [(hX8, .inr (7, [.ref aX8_ups, .ref aX8_downs, .int (i32 m_many), .ref aX8_row, .int (i32 m_isSpent), .int (i32 m_found), .ref aX8_sumMany, .ref aX8_sumShares, .ref aX8_sumSet, .ref aX8_taken, .ref aX8_restUp, .ref aX8_restDown, .int (i32 m_fewest), .int (i32 m_wishes), .ref aX8_wished, .ref aX8_far, .ref aX8_queue, .int (i32 m_divided), .ref aX8_divisors, .ref aX8_least, .long (i64 m_pairOne), .long (i64 m_pairTwo), .long (i64 m_sumUp), .long (i64 m_sumDown)])), (aX8_ups, aI X.cI 8 m_ups), (aX8_downs, aI X.cI 8 m_downs), (aX8_sumMany, aI X.cI 2000 m_sumMany), (aX8_sumShares, aI X.cI 12000 m_sumShares), (aX8_sumSet, aL X.cJ 2000 m_sumSet), (aX8_taken, aI X.cI 7 m_taken), (aX8_restUp, aL X.cJ 8 m_restUp), (aX8_restDown, aL X.cJ 8 m_restDown)]
  refine q_if_ne g (5) 35 rx27 (by decide) dX8_sums_30 (fun b30 => ?_) (fun b30 => ?_)
  · replace h := h.1 b30
    refine q_aload_n g 0 0 rfl dX8_sums_35 ?_
    refine q_iload_n g 1 1 rfl dX8_sums_36 ?_
    refine q_callV (lev := 1) (mc := 0) (ms := 0) g 148 (c_X8_isPart X.l X.D X.cI X.cJ X.zt hX8 aX8_ups aX8_downs m_many aX8_row m_isSpent m_found aX8_sumMany aX8_sumShares aX8_sumSet aX8_taken aX8_restUp aX8_restDown m_fewest m_wishes aX8_wished aX8_far aX8_queue m_divided aX8_divisors aX8_least m_pairOne m_pairTwo m_sumUp m_sumDown m_ups m_downs l1 _ r_m_ups r_m_downs r_l1 h) (wr := [(aX8_sumMany, aI X.cI 2000 m_sumMany), (aX8_sumShares, aI X.cI 12000 m_sumShares), (aX8_sumSet, aL X.cJ 2000 m_sumSet), (aX8_taken, aI X.cI 7 m_taken), (aX8_restUp, aL X.cJ 8 m_restUp), (aX8_restDown, aL X.cJ 8 m_restDown)]) [0, 1, 2] [3, 4, 5, 6, 7, 8] rfl rfl rfl (by decide) (by decide) (by decide) (ci := 7) rfl rfl rfl wM_X8_148 wI_X8_isPart wS_X8_isPart wZ_X8 wC_X8_isPart 1 rfl (by decide +kernel) (by rw [hR]; exact ⟨by show 1 + 1 ≤ 3; omega, by show 8 + (2 + 11) + 100 * 1 ≤ 100 * 3; omega⟩) (by rw [hR]; exact ⟨Nat.le_refl _, Nat.le_refl _⟩) (Nat.le_of_ble_eq_true rfl) rfl dX8_sums_37 (fun rv w1 hq => ?_)
    obtain ⟨x37, rfl, rfl, rx37, h⟩ := hq
    refine q_ws (ws' := [(hX8, .inr (7, [.ref aX8_ups, .ref aX8_downs, .int (i32 m_many), .ref aX8_row, .int (i32 m_isSpent), .int (i32 m_found), .ref aX8_sumMany, .ref aX8_sumShares, .ref aX8_sumSet, .ref aX8_taken, .ref aX8_restUp, .ref aX8_restDown, .int (i32 m_fewest), .int (i32 m_wishes), .ref aX8_wished, .ref aX8_far, .ref aX8_queue, .int (i32 m_divided), .ref aX8_divisors, .ref aX8_least, .long (i64 m_pairOne), .long (i64 m_pairTwo), .long (i64 m_sumUp), .long (i64 m_sumDown)])), (aX8_ups, aI X.cI 8 m_ups), (aX8_downs, aI X.cI 8 m_downs), (aX8_sumMany, aI X.cI 2000 m_sumMany), (aX8_sumShares, aI X.cI 12000 m_sumShares), (aX8_sumSet, aL X.cJ 2000 m_sumSet), (aX8_taken, aI X.cI 7 m_taken), (aX8_restUp, aL X.cJ 8 m_restUp), (aX8_restDown, aL X.cJ 8 m_restDown)]) [6, 7, 8, 0, 1, 2, 3, 4, 5] (by decide) rfl rfl ?_
    show Wat X 0 0 40 [(0, .ref hX8), (1, .int (i32 l1)), (2, .int (i32 l2)), (3, .int (i32 l3))] [.int (i32 x37)] [(hX8, .inr (7, [.ref aX8_ups, .ref aX8_downs, .int (i32 m_many), .ref aX8_row, .int (i32 m_isSpent), .int (i32 m_found), .ref aX8_sumMany, .ref aX8_sumShares, .ref aX8_sumSet, .ref aX8_taken, .ref aX8_restUp, .ref aX8_restDown, .int (i32 m_fewest), .int (i32 m_wishes), .ref aX8_wished, .ref aX8_far, .ref aX8_queue, .int (i32 m_divided), .ref aX8_divisors, .ref aX8_least, .long (i64 m_pairOne), .long (i64 m_pairTwo), .long (i64 m_sumUp), .long (i64 m_sumDown)])), (aX8_ups, aI X.cI 8 m_ups), (aX8_downs, aI X.cI 8 m_downs), (aX8_sumMany, aI X.cI 2000 m_sumMany), (aX8_sumShares, aI X.cI 12000 m_sumShares), (aX8_sumSet, aL X.cJ 2000 m_sumSet), (aX8_taken, aI X.cI 7 m_taken), (aX8_restUp, aL X.cJ 8 m_restUp), (aX8_restDown, aL X.cJ 8 m_restDown)]
    refine q_if_ne g (6) 46 rx37 (by decide) dX8_sums_40 (fun b40 => ?_) (fun b40 => ?_)
    · replace h := h.1 b40
      refine q_aload_n g 0 0 rfl dX8_sums_46 ?_
      refine q_aload_n g 0 0 rfl dX8_sums_47 ?_
      refine q_get (C := RX8) (T := TX8) (N := 24) g 7 inX8 0 0 rfl rfl (by decide) wF_X8_7 rfl dX8_sums_48 ?_
      refine q_iload_n g 1 1 rfl dX8_sums_51 ?_
      obtain ⟨c52, h⟩ := h
      obtain ⟨e52, h⟩ := h
      refine q_iald g 1 rfl c52 e52 (by decide) dX8_sums_52 ?_
      refine q_i2l g (r_m_ups _) dX8_sums_53 ?_
      refine q_aload_n g 0 0 rfl dX8_sums_54 ?_
      refine q_get (C := RX8) (T := TX8) (N := 24) g 13 inX8 0 1 rfl rfl (by decide) wF_X8_13 rfl dX8_sums_55 ?_
      refine q_iload_n g 1 1 rfl dX8_sums_58 ?_
      obtain ⟨c59, h⟩ := h
      obtain ⟨e59, h⟩ := h
      refine q_iald g 2 rfl c59 e59 (by decide) dX8_sums_59 ?_
      refine q_i2l g (r_m_downs _) dX8_sums_60 ?_
      refine q_iload_n g 2 2 rfl dX8_sums_61 ?_
      refine q_iload_n g 3 3 rfl dX8_sums_62 ?_
      refine q_iconst g (1) dX8_sums_63 ?_
      refine q_callV (lev := 2) (mc := 0) (ms := 0) g 151 (c_X8_findSums X.l X.D X.cI X.cJ X.zt hX8 aX8_ups aX8_downs m_many aX8_row m_isSpent m_found aX8_sumMany aX8_sumShares aX8_sumSet aX8_taken aX8_restUp aX8_restDown m_fewest m_wishes aX8_wished aX8_far aX8_queue m_divided aX8_divisors aX8_least m_pairOne m_pairTwo m_sumUp m_sumDown m_sumMany m_sumShares m_sumSet m_taken m_restUp m_restDown (m_ups l1) (m_downs l1) l2 l3 1 _ r_m_found r_m_sumMany r_m_sumShares r_m_sumSet r_m_taken r_m_restUp r_m_restDown r_m_fewest (r32_64 (r_m_ups _)) (r32_64 (r_m_downs _)) r_l2 r_l3 (r32_lit _ (by decide)) h) (wr := [(aX8_ups, aI X.cI 8 m_ups), (aX8_downs, aI X.cI 8 m_downs)]) [0, 3, 4, 5, 6, 7, 8] [1, 2] rfl rfl rfl (by decide) (by decide) (by decide) (ci := 7) rfl rfl rfl wM_X8_151 wI_X8_findSums wS_X8_findSums wZ_X8 wC_X8_findSums 5 rfl (by decide +kernel) (by rw [hR]; exact ⟨by show 2 + 1 ≤ 3; omega, by show 8 + (23 + 11) + 100 * 2 ≤ 100 * 3; omega⟩) (by rw [hR]; exact ⟨Nat.le_refl _, Nat.le_refl _⟩) (Nat.le_of_ble_eq_true rfl) rfl dX8_sums_64 (fun rv w1 hq => ?_)
      obtain ⟨m_found_64, m_sumMany_64, m_sumShares_64, m_sumSet_64, m_taken_64, m_restUp_64, m_restDown_64, m_fewest_64, rfl, rfl, rm_found_64, rm_sumMany_64, rm_sumShares_64, rm_sumSet_64, rm_taken_64, rm_restUp_64, rm_restDown_64, rm_fewest_64, h⟩ := hq
      refine q_ws (ws' := [(hX8, .inr (7, [.ref aX8_ups, .ref aX8_downs, .int (i32 m_many), .ref aX8_row, .int (i32 m_isSpent), .int (i32 m_found_64), .ref aX8_sumMany, .ref aX8_sumShares, .ref aX8_sumSet, .ref aX8_taken, .ref aX8_restUp, .ref aX8_restDown, .int (i32 m_fewest_64), .int (i32 m_wishes), .ref aX8_wished, .ref aX8_far, .ref aX8_queue, .int (i32 m_divided), .ref aX8_divisors, .ref aX8_least, .long (i64 m_pairOne), .long (i64 m_pairTwo), .long (i64 m_sumUp), .long (i64 m_sumDown)])), (aX8_ups, aI X.cI 8 m_ups), (aX8_downs, aI X.cI 8 m_downs), (aX8_sumMany, aI X.cI 2000 m_sumMany_64), (aX8_sumShares, aI X.cI 12000 m_sumShares_64), (aX8_sumSet, aL X.cJ 2000 m_sumSet_64), (aX8_taken, aI X.cI 7 m_taken_64), (aX8_restUp, aL X.cJ 8 m_restUp_64), (aX8_restDown, aL X.cJ 8 m_restDown_64)]) [2, 0, 1, 3, 4, 5, 6, 7, 8] (by decide) rfl rfl ?_
      show Wat X 0 0 67 [(0, .ref hX8), (1, .int (i32 l1)), (2, .int (i32 l2)), (3, .int (i32 l3))] [] [(hX8, .inr (7, [.ref aX8_ups, .ref aX8_downs, .int (i32 m_many), .ref aX8_row, .int (i32 m_isSpent), .int (i32 m_found_64), .ref aX8_sumMany, .ref aX8_sumShares, .ref aX8_sumSet, .ref aX8_taken, .ref aX8_restUp, .ref aX8_restDown, .int (i32 m_fewest_64), .int (i32 m_wishes), .ref aX8_wished, .ref aX8_far, .ref aX8_queue, .int (i32 m_divided), .ref aX8_divisors, .ref aX8_least, .long (i64 m_pairOne), .long (i64 m_pairTwo), .long (i64 m_sumUp), .long (i64 m_sumDown)])), (aX8_ups, aI X.cI 8 m_ups), (aX8_downs, aI X.cI 8 m_downs), (aX8_sumMany, aI X.cI 2000 m_sumMany_64), (aX8_sumShares, aI X.cI 12000 m_sumShares_64), (aX8_sumSet, aL X.cJ 2000 m_sumSet_64), (aX8_taken, aI X.cI 7 m_taken_64), (aX8_restUp, aL X.cJ 8 m_restUp_64), (aX8_restDown, aL X.cJ 8 m_restDown_64)]
      refine q_aload_n g 0 0 rfl dX8_sums_67 ?_
      refine q_get (C := RX8) (T := TX8) (N := 24) g 20 inX8 0 5 rfl rfl (by decide) wF_X8_20 rfl dX8_sums_68 ?_
      refine q_if_ge g (8) 79 rm_found_64 (by decide) dX8_sums_71 (fun b71 => ?_) (fun b71 => ?_)
      · replace h := h.1 b71
        refine q_aload_n g 0 0 rfl dX8_sums_79 ?_
        refine q_get (C := RX8) (T := TX8) (N := 24) g 20 inX8 0 5 rfl rfl (by decide) wF_X8_20 rfl dX8_sums_80 ?_
        refine q_lv (lv' := []) [] rfl ?_
        exact s_X8_sums_83 g hR hX8 aX8_ups aX8_downs m_many aX8_row m_isSpent aX8_sumMany aX8_sumShares aX8_sumSet aX8_taken aX8_restUp aX8_restDown m_wishes aX8_wished aX8_far aX8_queue m_divided aX8_divisors aX8_least m_pairOne m_pairTwo m_sumUp m_sumDown m_ups m_downs r_m_ups r_m_downs Q hF m_found_64 m_sumMany_64 m_sumShares_64 m_sumSet_64 m_taken_64 m_restUp_64 m_restDown_64 m_fewest_64 m_found_64 rm_found_64 rm_sumMany_64 rm_sumShares_64 rm_sumSet_64 rm_taken_64 rm_restUp_64 rm_restDown_64 rm_fewest_64 rm_found_64 h
      replace h := h.2 b71
      refine q_bipush g (-5) (by decide) (by decide) dX8_sums_74 ?_
      refine q_goto g (7) 83 (by decide) dX8_sums_76 ?_
      refine q_lv (lv' := []) [] rfl ?_
      exact s_X8_sums_83 g hR hX8 aX8_ups aX8_downs m_many aX8_row m_isSpent aX8_sumMany aX8_sumShares aX8_sumSet aX8_taken aX8_restUp aX8_restDown m_wishes aX8_wished aX8_far aX8_queue m_divided aX8_divisors aX8_least m_pairOne m_pairTwo m_sumUp m_sumDown m_ups m_downs r_m_ups r_m_downs Q hF m_found_64 m_sumMany_64 m_sumShares_64 m_sumSet_64 m_taken_64 m_restUp_64 m_restDown_64 m_fewest_64 (-5) rm_found_64 rm_sumMany_64 rm_sumShares_64 rm_sumSet_64 rm_taken_64 rm_restUp_64 rm_restDown_64 rm_fewest_64 (r32_lit _ (by decide)) h
    replace h := h.2 b40
    refine q_bipush g (-2) (by decide) (by decide) dX8_sums_43 ?_
    exact q_iret g hF ⟨(-2), m_found, m_sumMany, m_sumShares, m_sumSet, m_taken, m_restUp, m_restDown, m_fewest, rfl, rfl, (r32_lit _ (by decide)), r_m_found, r_m_sumMany, r_m_sumShares, r_m_sumSet, r_m_taken, r_m_restUp, r_m_restDown, r_m_fewest, h⟩ dX8_sums_45
  replace h := h.2 b30
  refine q_lv (lv' := []) [] rfl ?_
  exact s_X8_sums_33 g hR hX8 aX8_ups aX8_downs m_many aX8_row m_isSpent aX8_sumMany aX8_sumShares aX8_sumSet aX8_taken aX8_restUp aX8_restDown m_wishes aX8_wished aX8_far aX8_queue m_divided aX8_divisors aX8_least m_pairOne m_pairTwo m_sumUp m_sumDown m_ups m_downs r_m_ups r_m_downs Q hF m_found m_sumMany m_sumShares m_sumSet m_taken m_restUp m_restDown m_fewest r_m_found r_m_sumMany r_m_sumShares r_m_sumSet r_m_taken r_m_restUp r_m_restDown r_m_fewest h
theorem dX8_table_0 : decode cX8_table 0 = .ok (.iload_n 1, 1) := by decide +kernel
theorem dX8_table_1 : decode cX8_table 1 = .ok (.i2l, 1) := by decide +kernel
theorem dX8_table_2 : decode cX8_table 2 = .ok (.ldc2_w 89, 3) := by decide +kernel
theorem dX8_table_5 : decode cX8_table 5 = .ok (.ldc2_w 144, 3) := by decide +kernel
theorem dX8_table_8 : decode cX8_table 8 = .ok (.invokestatic 60, 3) := by decide +kernel
theorem dX8_table_11 : decode cX8_table 11 = .ok (.ifCond .eq 43, 3) := by decide +kernel
theorem dX8_table_14 : decode cX8_table 14 = .ok (.iload_n 2, 1) := by decide +kernel
theorem dX8_table_15 : decode cX8_table 15 = .ok (.i2l, 1) := by decide +kernel
theorem dX8_table_16 : decode cX8_table 16 = .ok (.ldc2_w 89, 3) := by decide +kernel
theorem dX8_table_19 : decode cX8_table 19 = .ok (.ldc2_w 214, 3) := by decide +kernel
theorem dX8_table_22 : decode cX8_table 22 = .ok (.invokestatic 60, 3) := by decide +kernel
theorem dX8_table_25 : decode cX8_table 25 = .ok (.ifCond .eq 29, 3) := by decide +kernel
theorem dX8_table_28 : decode cX8_table 28 = .ok (.iload_n 3, 1) := by decide +kernel
theorem dX8_table_29 : decode cX8_table 29 = .ok (.i2l, 1) := by decide +kernel
theorem dX8_table_30 : decode cX8_table 30 = .ok (.lconst 1, 1) := by decide +kernel
theorem dX8_table_31 : decode cX8_table 31 = .ok (.ldc2_w 124, 3) := by decide +kernel
theorem dX8_table_34 : decode cX8_table 34 = .ok (.invokestatic 60, 3) := by decide +kernel
theorem dX8_table_37 : decode cX8_table 37 = .ok (.ifCond .eq 17, 3) := by decide +kernel
theorem dX8_table_40 : decode cX8_table 40 = .ok (.iload 4, 2) := by decide +kernel
theorem dX8_table_42 : decode cX8_table 42 = .ok (.i2l, 1) := by decide +kernel
theorem dX8_table_43 : decode cX8_table 43 = .ok (.lconst 0, 1) := by decide +kernel
theorem dX8_table_44 : decode cX8_table 44 = .ok (.iload_n 1, 1) := by decide +kernel
theorem dX8_table_45 : decode cX8_table 45 = .ok (.iconst 1, 1) := by decide +kernel
theorem dX8_table_46 : decode cX8_table 46 = .ok (.isub, 1) := by decide +kernel
theorem dX8_table_47 : decode cX8_table 47 = .ok (.i2l, 1) := by decide +kernel
theorem dX8_table_48 : decode cX8_table 48 = .ok (.invokestatic 60, 3) := by decide +kernel
theorem dX8_table_51 : decode cX8_table 51 = .ok (.ifCond .ne 5, 3) := by decide +kernel
theorem dX8_table_54 : decode cX8_table 54 = .ok (.iconst (-1), 1) := by decide +kernel
theorem dX8_table_55 : decode cX8_table 55 = .ok (.ireturn, 1) := by decide +kernel
theorem dX8_table_56 : decode cX8_table 56 = .ok (.iload 4, 2) := by decide +kernel
theorem dX8_table_58 : decode cX8_table 58 = .ok (.ifCond .le 20, 3) := by decide +kernel
theorem dX8_table_61 : decode cX8_table 61 = .ok (.aload_n 0, 1) := by decide +kernel
theorem dX8_table_62 : decode cX8_table 62 = .ok (.iload 4, 2) := by decide +kernel
theorem dX8_table_64 : decode cX8_table 64 = .ok (.i2l, 1) := by decide +kernel
theorem dX8_table_65 : decode cX8_table 65 = .ok (.iload_n 1, 1) := by decide +kernel
theorem dX8_table_66 : decode cX8_table 66 = .ok (.i2l, 1) := by decide +kernel
theorem dX8_table_67 : decode cX8_table 67 = .ok (.iload_n 2, 1) := by decide +kernel
theorem dX8_table_68 : decode cX8_table 68 = .ok (.iload_n 3, 1) := by decide +kernel
theorem dX8_table_69 : decode cX8_table 69 = .ok (.iconst 0, 1) := by decide +kernel
theorem dX8_table_70 : decode cX8_table 70 = .ok (.invokevirtual 151, 3) := by decide +kernel
theorem dX8_table_73 : decode cX8_table 73 = .ok (.aload_n 0, 1) := by decide +kernel
theorem dX8_table_74 : decode cX8_table 74 = .ok (.getfield 137, 3) := by decide +kernel
theorem dX8_table_77 : decode cX8_table 77 = .ok (.ireturn, 1) := by decide +kernel
theorem dX8_table_78 : decode cX8_table 78 = .ok (.bipush (-4), 2) := by decide +kernel
theorem dX8_table_80 : decode cX8_table 80 = .ok (.istore 5, 2) := by decide +kernel
theorem dX8_table_82 : decode cX8_table 82 = .ok (.iconst 0, 1) := by decide +kernel
theorem dX8_table_83 : decode cX8_table 83 = .ok (.istore 6, 2) := by decide +kernel
theorem dX8_table_85 : decode cX8_table 85 = .ok (.iconst 1, 1) := by decide +kernel
theorem dX8_table_86 : decode cX8_table 86 = .ok (.istore 7, 2) := by decide +kernel
theorem dX8_table_88 : decode cX8_table 88 = .ok (.iload 7, 2) := by decide +kernel
theorem dX8_table_90 : decode cX8_table 90 = .ok (.iload_n 1, 1) := by decide +kernel
theorem dX8_table_91 : decode cX8_table 91 = .ok (.if_icmp .ge 71, 3) := by decide +kernel
theorem dX8_table_94 : decode cX8_table 94 = .ok (.aload_n 0, 1) := by decide +kernel
theorem dX8_table_95 : decode cX8_table 95 = .ok (.iload 7, 2) := by decide +kernel
theorem dX8_table_97 : decode cX8_table 97 = .ok (.i2l, 1) := by decide +kernel
theorem dX8_table_98 : decode cX8_table 98 = .ok (.iload_n 1, 1) := by decide +kernel
theorem dX8_table_99 : decode cX8_table 99 = .ok (.i2l, 1) := by decide +kernel
theorem dX8_table_100 : decode cX8_table 100 = .ok (.iload_n 2, 1) := by decide +kernel
theorem dX8_table_101 : decode cX8_table 101 = .ok (.iload_n 3, 1) := by decide +kernel
theorem dX8_table_102 : decode cX8_table 102 = .ok (.iconst 0, 1) := by decide +kernel
theorem dX8_table_103 : decode cX8_table 103 = .ok (.invokevirtual 151, 3) := by decide +kernel
theorem dX8_table_106 : decode cX8_table 106 = .ok (.aload_n 0, 1) := by decide +kernel
theorem dX8_table_107 : decode cX8_table 107 = .ok (.getfield 137, 3) := by decide +kernel
theorem dX8_table_110 : decode cX8_table 110 = .ok (.ifCond .ge 8, 3) := by decide +kernel
theorem dX8_table_113 : decode cX8_table 113 = .ok (.bipush 99, 2) := by decide +kernel
theorem dX8_table_115 : decode cX8_table 115 = .ok (.goto 7, 3) := by decide +kernel
theorem dX8_table_118 : decode cX8_table 118 = .ok (.aload_n 0, 1) := by decide +kernel
theorem dX8_table_119 : decode cX8_table 119 = .ok (.getfield 137, 3) := by decide +kernel
theorem dX8_table_122 : decode cX8_table 122 = .ok (.istore 8, 2) := by decide +kernel
theorem dX8_table_124 : decode cX8_table 124 = .ok (.iload 8, 2) := by decide +kernel
theorem dX8_table_126 : decode cX8_table 126 = .ok (.iload 6, 2) := by decide +kernel
theorem dX8_table_128 : decode cX8_table 128 = .ok (.if_icmp .le 8, 3) := by decide +kernel
theorem dX8_table_131 : decode cX8_table 131 = .ok (.iload 7, 2) := by decide +kernel
theorem dX8_table_133 : decode cX8_table 133 = .ok (.goto 5, 3) := by decide +kernel
theorem dX8_table_136 : decode cX8_table 136 = .ok (.iload 5, 2) := by decide +kernel
theorem dX8_table_138 : decode cX8_table 138 = .ok (.istore 5, 2) := by decide +kernel
theorem dX8_table_140 : decode cX8_table 140 = .ok (.iload 8, 2) := by decide +kernel
theorem dX8_table_142 : decode cX8_table 142 = .ok (.iload 6, 2) := by decide +kernel
theorem dX8_table_144 : decode cX8_table 144 = .ok (.if_icmp .le 8, 3) := by decide +kernel
theorem dX8_table_147 : decode cX8_table 147 = .ok (.iload 8, 2) := by decide +kernel
theorem dX8_table_149 : decode cX8_table 149 = .ok (.goto 5, 3) := by decide +kernel
theorem dX8_table_152 : decode cX8_table 152 = .ok (.iload 6, 2) := by decide +kernel
theorem dX8_table_154 : decode cX8_table 154 = .ok (.istore 6, 2) := by decide +kernel
theorem dX8_table_156 : decode cX8_table 156 = .ok (.iinc 7 1, 3) := by decide +kernel
theorem dX8_table_159 : decode cX8_table 159 = .ok (.goto (-71), 3) := by decide +kernel
theorem dX8_table_162 : decode cX8_table 162 = .ok (.iload 5, 2) := by decide +kernel
theorem dX8_table_164 : decode cX8_table 164 = .ok (.ireturn, 1) := by decide +kernel
abbrev po_X8_table (cI cJ : ClassId) (hX8 : Nat) (aX8_ups : Nat) (aX8_downs : Nat) (m_many : Int) (aX8_row : Nat) (m_isSpent : Int) (aX8_sumMany : Nat) (aX8_sumShares : Nat) (aX8_sumSet : Nat) (aX8_taken : Nat) (aX8_restUp : Nat) (aX8_restDown : Nat) (m_wishes : Int) (aX8_wished : Nat) (aX8_far : Nat) (aX8_queue : Nat) (m_divided : Int) (aX8_divisors : Nat) (aX8_least : Nat) (m_pairOne : Int) (m_pairTwo : Int) (m_sumUp : Int) (m_sumDown : Int) (Q : Int → Int → (Int → Int) → (Int → Int) → (Int → Int) → (Int → Int) → (Int → Int) → (Int → Int) → Int → Prop) : Option Value → va_W → Prop := fun rv w1 => ∃ (r0 : Int) (m_found : Int) (m_sumMany : Int → Int) (m_sumShares : Int → Int) (m_sumSet : Int → Int) (m_taken : Int → Int) (m_restUp : Int → Int) (m_restDown : Int → Int) (m_fewest : Int), rv = some (.int (i32 r0)) ∧ w1 = [(hX8, .inr (7, [.ref aX8_ups, .ref aX8_downs, .int (i32 m_many), .ref aX8_row, .int (i32 m_isSpent), .int (i32 m_found), .ref aX8_sumMany, .ref aX8_sumShares, .ref aX8_sumSet, .ref aX8_taken, .ref aX8_restUp, .ref aX8_restDown, .int (i32 m_fewest), .int (i32 m_wishes), .ref aX8_wished, .ref aX8_far, .ref aX8_queue, .int (i32 m_divided), .ref aX8_divisors, .ref aX8_least, .long (i64 m_pairOne), .long (i64 m_pairTwo), .long (i64 m_sumUp), .long (i64 m_sumDown)])), (aX8_sumMany, aI cI 2000 m_sumMany), (aX8_sumShares, aI cI 12000 m_sumShares), (aX8_sumSet, aL cJ 2000 m_sumSet), (aX8_taken, aI cI 7 m_taken), (aX8_restUp, aL cJ 8 m_restUp), (aX8_restDown, aL cJ 8 m_restDown)] ∧ r32 r0 ∧ r32 m_found ∧ rr32 m_sumMany ∧ rr32 m_sumShares ∧ rr64 m_sumSet ∧ rr32 m_taken ∧ rr64 m_restUp ∧ rr64 m_restDown ∧ r32 m_fewest ∧ Q r0 m_found m_sumMany m_sumShares m_sumSet m_taken m_restUp m_restDown m_fewest
def wp_X8_table_54 (Q : Int → Int → (Int → Int) → (Int → Int) → (Int → Int) → (Int → Int) → (Int → Int) → (Int → Int) → Int → Prop) (m_found : Int) (m_sumMany : Int → Int) (m_sumShares : Int → Int) (m_sumSet : Int → Int) (m_taken : Int → Int) (m_restUp : Int → Int) (m_restDown : Int → Int) (m_fewest : Int) : Prop := Q (-1) m_found m_sumMany m_sumShares m_sumSet m_taken m_restUp m_restDown m_fewest
set_option maxHeartbeats 4000000 in
set_option maxRecDepth 100000 in
theorem s_X8_table_54 {X : Cx} (g : Gd X cX8_table RX8 (some .int) 9) (hR : X.R = rmL 3 0 0) (hX8 : Nat) (aX8_ups : Nat) (aX8_downs : Nat) (m_many : Int) (aX8_row : Nat) (m_isSpent : Int) (aX8_sumMany : Nat) (aX8_sumShares : Nat) (aX8_sumSet : Nat) (aX8_taken : Nat) (aX8_restUp : Nat) (aX8_restDown : Nat) (m_wishes : Int) (aX8_wished : Nat) (aX8_far : Nat) (aX8_queue : Nat) (m_divided : Int) (aX8_divisors : Nat) (aX8_least : Nat) (m_pairOne : Int) (m_pairTwo : Int) (m_sumUp : Int) (m_sumDown : Int) (Q : Int → Int → (Int → Int) → (Int → Int) → (Int → Int) → (Int → Int) → (Int → Int) → (Int → Int) → Int → Prop) (hF : FQ X 0 0 (po_X8_table X.cI X.cJ hX8 aX8_ups aX8_downs m_many aX8_row m_isSpent aX8_sumMany aX8_sumShares aX8_sumSet aX8_taken aX8_restUp aX8_restDown m_wishes aX8_wished aX8_far aX8_queue m_divided aX8_divisors aX8_least m_pairOne m_pairTwo m_sumUp m_sumDown Q)) : ∀ (m_found : Int) (m_sumMany : Int → Int) (m_sumShares : Int → Int) (m_sumSet : Int → Int) (m_taken : Int → Int) (m_restUp : Int → Int) (m_restDown : Int → Int) (m_fewest : Int), r32 m_found → rr32 m_sumMany → rr32 m_sumShares → rr64 m_sumSet → rr32 m_taken → rr64 m_restUp → rr64 m_restDown → r32 m_fewest → wp_X8_table_54 Q m_found m_sumMany m_sumShares m_sumSet m_taken m_restUp m_restDown m_fewest → Wat X 0 0 54 [] [] [(hX8, .inr (7, [.ref aX8_ups, .ref aX8_downs, .int (i32 m_many), .ref aX8_row, .int (i32 m_isSpent), .int (i32 m_found), .ref aX8_sumMany, .ref aX8_sumShares, .ref aX8_sumSet, .ref aX8_taken, .ref aX8_restUp, .ref aX8_restDown, .int (i32 m_fewest), .int (i32 m_wishes), .ref aX8_wished, .ref aX8_far, .ref aX8_queue, .int (i32 m_divided), .ref aX8_divisors, .ref aX8_least, .long (i64 m_pairOne), .long (i64 m_pairTwo), .long (i64 m_sumUp), .long (i64 m_sumDown)])), (aX8_sumMany, aI X.cI 2000 m_sumMany), (aX8_sumShares, aI X.cI 12000 m_sumShares), (aX8_sumSet, aL X.cJ 2000 m_sumSet), (aX8_taken, aI X.cI 7 m_taken), (aX8_restUp, aL X.cJ 8 m_restUp), (aX8_restDown, aL X.cJ 8 m_restDown)] := by
  intro m_found m_sumMany m_sumShares m_sumSet m_taken m_restUp m_restDown m_fewest r_m_found r_m_sumMany r_m_sumShares r_m_sumSet r_m_taken r_m_restUp r_m_restDown r_m_fewest h
  rw [wp_X8_table_54] at h
  refine q_iconst g (-1) dX8_table_54 ?_
  exact q_iret g hF ⟨(-1), m_found, m_sumMany, m_sumShares, m_sumSet, m_taken, m_restUp, m_restDown, m_fewest, rfl, rfl, (r32_lit _ (by decide)), r_m_found, r_m_sumMany, r_m_sumShares, r_m_sumSet, r_m_taken, r_m_restUp, r_m_restDown, r_m_fewest, h⟩ dX8_table_55
def wp_X8_table_154 (Q : Int → Int → (Int → Int) → (Int → Int) → (Int → Int) → (Int → Int) → (Int → Int) → (Int → Int) → Int → Prop) (K_88 : Int → (Int → Int) → (Int → Int) → (Int → Int) → (Int → Int) → (Int → Int) → (Int → Int) → Int → Int → Int → Int → Int → Int → Int → Prop) (m_found : Int) (m_sumMany : Int → Int) (m_sumShares : Int → Int) (m_sumSet : Int → Int) (m_taken : Int → Int) (m_restUp : Int → Int) (m_restDown : Int → Int) (m_fewest : Int) (l1 : Int) (l2 : Int) (l3 : Int) (l5 : Int) (l7 : Int) (k0 : Int) : Prop := (r32 (l7 + 1) ∧ K_88 m_found m_sumMany m_sumShares m_sumSet m_taken m_restUp m_restDown m_fewest l1 l2 l3 l5 k0 (l7 + 1))
set_option maxHeartbeats 4000000 in
set_option maxRecDepth 100000 in
theorem s_X8_table_154 {X : Cx} (g : Gd X cX8_table RX8 (some .int) 9) (hR : X.R = rmL 3 0 0) (hX8 : Nat) (aX8_ups : Nat) (aX8_downs : Nat) (m_many : Int) (aX8_row : Nat) (m_isSpent : Int) (aX8_sumMany : Nat) (aX8_sumShares : Nat) (aX8_sumSet : Nat) (aX8_taken : Nat) (aX8_restUp : Nat) (aX8_restDown : Nat) (m_wishes : Int) (aX8_wished : Nat) (aX8_far : Nat) (aX8_queue : Nat) (m_divided : Int) (aX8_divisors : Nat) (aX8_least : Nat) (m_pairOne : Int) (m_pairTwo : Int) (m_sumUp : Int) (m_sumDown : Int) (Q : Int → Int → (Int → Int) → (Int → Int) → (Int → Int) → (Int → Int) → (Int → Int) → (Int → Int) → Int → Prop) (hF : FQ X 0 0 (po_X8_table X.cI X.cJ hX8 aX8_ups aX8_downs m_many aX8_row m_isSpent aX8_sumMany aX8_sumShares aX8_sumSet aX8_taken aX8_restUp aX8_restDown m_wishes aX8_wished aX8_far aX8_queue m_divided aX8_divisors aX8_least m_pairOne m_pairTwo m_sumUp m_sumDown Q)) (K_88 : Int → (Int → Int) → (Int → Int) → (Int → Int) → (Int → Int) → (Int → Int) → (Int → Int) → Int → Int → Int → Int → Int → Int → Int → Prop) (hK_88 : ∀ (m_found : Int) (m_sumMany : Int → Int) (m_sumShares : Int → Int) (m_sumSet : Int → Int) (m_taken : Int → Int) (m_restUp : Int → Int) (m_restDown : Int → Int) (m_fewest : Int) (l1 : Int) (l2 : Int) (l3 : Int) (l5 : Int) (l6 : Int) (l7 : Int), r32 m_found → rr32 m_sumMany → rr32 m_sumShares → rr64 m_sumSet → rr32 m_taken → rr64 m_restUp → rr64 m_restDown → r32 m_fewest → r32 l1 → r32 l2 → r32 l3 → r32 l5 → r32 l6 → r32 l7 → K_88 m_found m_sumMany m_sumShares m_sumSet m_taken m_restUp m_restDown m_fewest l1 l2 l3 l5 l6 l7 → Wat X 0 0 88 [(0, .ref hX8), (1, .int (i32 l1)), (2, .int (i32 l2)), (3, .int (i32 l3)), (5, .int (i32 l5)), (6, .int (i32 l6)), (7, .int (i32 l7))] [] [(hX8, .inr (7, [.ref aX8_ups, .ref aX8_downs, .int (i32 m_many), .ref aX8_row, .int (i32 m_isSpent), .int (i32 m_found), .ref aX8_sumMany, .ref aX8_sumShares, .ref aX8_sumSet, .ref aX8_taken, .ref aX8_restUp, .ref aX8_restDown, .int (i32 m_fewest), .int (i32 m_wishes), .ref aX8_wished, .ref aX8_far, .ref aX8_queue, .int (i32 m_divided), .ref aX8_divisors, .ref aX8_least, .long (i64 m_pairOne), .long (i64 m_pairTwo), .long (i64 m_sumUp), .long (i64 m_sumDown)])), (aX8_sumMany, aI X.cI 2000 m_sumMany), (aX8_sumShares, aI X.cI 12000 m_sumShares), (aX8_sumSet, aL X.cJ 2000 m_sumSet), (aX8_taken, aI X.cI 7 m_taken), (aX8_restUp, aL X.cJ 8 m_restUp), (aX8_restDown, aL X.cJ 8 m_restDown)]) : ∀ (m_found : Int) (m_sumMany : Int → Int) (m_sumShares : Int → Int) (m_sumSet : Int → Int) (m_taken : Int → Int) (m_restUp : Int → Int) (m_restDown : Int → Int) (m_fewest : Int) (l1 : Int) (l2 : Int) (l3 : Int) (l5 : Int) (l7 : Int) (k0 : Int), r32 m_found → rr32 m_sumMany → rr32 m_sumShares → rr64 m_sumSet → rr32 m_taken → rr64 m_restUp → rr64 m_restDown → r32 m_fewest → r32 l1 → r32 l2 → r32 l3 → r32 l5 → r32 l7 → r32 k0 → wp_X8_table_154 Q K_88 m_found m_sumMany m_sumShares m_sumSet m_taken m_restUp m_restDown m_fewest l1 l2 l3 l5 l7 k0 → Wat X 0 0 154 [(0, .ref hX8), (1, .int (i32 l1)), (2, .int (i32 l2)), (3, .int (i32 l3)), (5, .int (i32 l5)), (7, .int (i32 l7))] [.int (i32 k0)] [(hX8, .inr (7, [.ref aX8_ups, .ref aX8_downs, .int (i32 m_many), .ref aX8_row, .int (i32 m_isSpent), .int (i32 m_found), .ref aX8_sumMany, .ref aX8_sumShares, .ref aX8_sumSet, .ref aX8_taken, .ref aX8_restUp, .ref aX8_restDown, .int (i32 m_fewest), .int (i32 m_wishes), .ref aX8_wished, .ref aX8_far, .ref aX8_queue, .int (i32 m_divided), .ref aX8_divisors, .ref aX8_least, .long (i64 m_pairOne), .long (i64 m_pairTwo), .long (i64 m_sumUp), .long (i64 m_sumDown)])), (aX8_sumMany, aI X.cI 2000 m_sumMany), (aX8_sumShares, aI X.cI 12000 m_sumShares), (aX8_sumSet, aL X.cJ 2000 m_sumSet), (aX8_taken, aI X.cI 7 m_taken), (aX8_restUp, aL X.cJ 8 m_restUp), (aX8_restDown, aL X.cJ 8 m_restDown)] := by
  intro m_found m_sumMany m_sumShares m_sumSet m_taken m_restUp m_restDown m_fewest l1 l2 l3 l5 l7 k0 r_m_found r_m_sumMany r_m_sumShares r_m_sumSet r_m_taken r_m_restUp r_m_restDown r_m_fewest r_l1 r_l2 r_l3 r_l5 r_l7 r_k0 h
  rw [wp_X8_table_154] at h
  refine q_istore (lv' := [(6, .int (i32 k0)), (0, .ref hX8), (1, .int (i32 l1)), (2, .int (i32 l2)), (3, .int (i32 l3)), (5, .int (i32 l5)), (7, .int (i32 l7))]) g 6   (by decide) rfl dX8_table_154 ?_
  obtain ⟨c156, h⟩ := h
  refine q_iinc (lv' := [(7, .int (i32 (l7 + 1))), (6, .int (i32 k0)), (0, .ref hX8), (1, .int (i32 l1)), (2, .int (i32 l2)), (3, .int (i32 l3)), (5, .int (i32 l5))]) g 7 6 1 (by decide) rfl rfl dX8_table_156 ?_
  refine q_goto g (-71) 88 (by decide) dX8_table_159 ?_
  refine q_lv (lv' := [(0, .ref hX8), (1, .int (i32 l1)), (2, .int (i32 l2)), (3, .int (i32 l3)), (5, .int (i32 l5)), (6, .int (i32 k0)), (7, .int (i32 (l7 + 1)))]) [2, 3, 4, 5, 6, 1, 0] rfl ?_
  exact hK_88 m_found m_sumMany m_sumShares m_sumSet m_taken m_restUp m_restDown m_fewest l1 l2 l3 l5 k0 (l7 + 1) r_m_found r_m_sumMany r_m_sumShares r_m_sumSet r_m_taken r_m_restUp r_m_restDown r_m_fewest r_l1 r_l2 r_l3 r_l5 r_k0 c156 h
def wp_X8_table_138 (Q : Int → Int → (Int → Int) → (Int → Int) → (Int → Int) → (Int → Int) → (Int → Int) → (Int → Int) → Int → Prop) (K_88 : Int → (Int → Int) → (Int → Int) → (Int → Int) → (Int → Int) → (Int → Int) → (Int → Int) → Int → Int → Int → Int → Int → Int → Int → Prop) (m_found : Int) (m_sumMany : Int → Int) (m_sumShares : Int → Int) (m_sumSet : Int → Int) (m_taken : Int → Int) (m_restUp : Int → Int) (m_restDown : Int → Int) (m_fewest : Int) (l1 : Int) (l2 : Int) (l3 : Int) (l6 : Int) (l7 : Int) (l8 : Int) (k0 : Int) : Prop := ((l8 ≤ l6 → wp_X8_table_154 Q K_88 m_found m_sumMany m_sumShares m_sumSet m_taken m_restUp m_restDown m_fewest l1 l2 l3 k0 l7 l6) ∧
  (¬ (l8 ≤ l6) → wp_X8_table_154 Q K_88 m_found m_sumMany m_sumShares m_sumSet m_taken m_restUp m_restDown m_fewest l1 l2 l3 k0 l7 l8))
set_option maxHeartbeats 4000000 in
set_option maxRecDepth 100000 in
theorem s_X8_table_138 {X : Cx} (g : Gd X cX8_table RX8 (some .int) 9) (hR : X.R = rmL 3 0 0) (hX8 : Nat) (aX8_ups : Nat) (aX8_downs : Nat) (m_many : Int) (aX8_row : Nat) (m_isSpent : Int) (aX8_sumMany : Nat) (aX8_sumShares : Nat) (aX8_sumSet : Nat) (aX8_taken : Nat) (aX8_restUp : Nat) (aX8_restDown : Nat) (m_wishes : Int) (aX8_wished : Nat) (aX8_far : Nat) (aX8_queue : Nat) (m_divided : Int) (aX8_divisors : Nat) (aX8_least : Nat) (m_pairOne : Int) (m_pairTwo : Int) (m_sumUp : Int) (m_sumDown : Int) (Q : Int → Int → (Int → Int) → (Int → Int) → (Int → Int) → (Int → Int) → (Int → Int) → (Int → Int) → Int → Prop) (hF : FQ X 0 0 (po_X8_table X.cI X.cJ hX8 aX8_ups aX8_downs m_many aX8_row m_isSpent aX8_sumMany aX8_sumShares aX8_sumSet aX8_taken aX8_restUp aX8_restDown m_wishes aX8_wished aX8_far aX8_queue m_divided aX8_divisors aX8_least m_pairOne m_pairTwo m_sumUp m_sumDown Q)) (K_88 : Int → (Int → Int) → (Int → Int) → (Int → Int) → (Int → Int) → (Int → Int) → (Int → Int) → Int → Int → Int → Int → Int → Int → Int → Prop) (hK_88 : ∀ (m_found : Int) (m_sumMany : Int → Int) (m_sumShares : Int → Int) (m_sumSet : Int → Int) (m_taken : Int → Int) (m_restUp : Int → Int) (m_restDown : Int → Int) (m_fewest : Int) (l1 : Int) (l2 : Int) (l3 : Int) (l5 : Int) (l6 : Int) (l7 : Int), r32 m_found → rr32 m_sumMany → rr32 m_sumShares → rr64 m_sumSet → rr32 m_taken → rr64 m_restUp → rr64 m_restDown → r32 m_fewest → r32 l1 → r32 l2 → r32 l3 → r32 l5 → r32 l6 → r32 l7 → K_88 m_found m_sumMany m_sumShares m_sumSet m_taken m_restUp m_restDown m_fewest l1 l2 l3 l5 l6 l7 → Wat X 0 0 88 [(0, .ref hX8), (1, .int (i32 l1)), (2, .int (i32 l2)), (3, .int (i32 l3)), (5, .int (i32 l5)), (6, .int (i32 l6)), (7, .int (i32 l7))] [] [(hX8, .inr (7, [.ref aX8_ups, .ref aX8_downs, .int (i32 m_many), .ref aX8_row, .int (i32 m_isSpent), .int (i32 m_found), .ref aX8_sumMany, .ref aX8_sumShares, .ref aX8_sumSet, .ref aX8_taken, .ref aX8_restUp, .ref aX8_restDown, .int (i32 m_fewest), .int (i32 m_wishes), .ref aX8_wished, .ref aX8_far, .ref aX8_queue, .int (i32 m_divided), .ref aX8_divisors, .ref aX8_least, .long (i64 m_pairOne), .long (i64 m_pairTwo), .long (i64 m_sumUp), .long (i64 m_sumDown)])), (aX8_sumMany, aI X.cI 2000 m_sumMany), (aX8_sumShares, aI X.cI 12000 m_sumShares), (aX8_sumSet, aL X.cJ 2000 m_sumSet), (aX8_taken, aI X.cI 7 m_taken), (aX8_restUp, aL X.cJ 8 m_restUp), (aX8_restDown, aL X.cJ 8 m_restDown)]) : ∀ (m_found : Int) (m_sumMany : Int → Int) (m_sumShares : Int → Int) (m_sumSet : Int → Int) (m_taken : Int → Int) (m_restUp : Int → Int) (m_restDown : Int → Int) (m_fewest : Int) (l1 : Int) (l2 : Int) (l3 : Int) (l6 : Int) (l7 : Int) (l8 : Int) (k0 : Int), r32 m_found → rr32 m_sumMany → rr32 m_sumShares → rr64 m_sumSet → rr32 m_taken → rr64 m_restUp → rr64 m_restDown → r32 m_fewest → r32 l1 → r32 l2 → r32 l3 → r32 l6 → r32 l7 → r32 l8 → r32 k0 → wp_X8_table_138 Q K_88 m_found m_sumMany m_sumShares m_sumSet m_taken m_restUp m_restDown m_fewest l1 l2 l3 l6 l7 l8 k0 → Wat X 0 0 138 [(0, .ref hX8), (1, .int (i32 l1)), (2, .int (i32 l2)), (3, .int (i32 l3)), (6, .int (i32 l6)), (7, .int (i32 l7)), (8, .int (i32 l8))] [.int (i32 k0)] [(hX8, .inr (7, [.ref aX8_ups, .ref aX8_downs, .int (i32 m_many), .ref aX8_row, .int (i32 m_isSpent), .int (i32 m_found), .ref aX8_sumMany, .ref aX8_sumShares, .ref aX8_sumSet, .ref aX8_taken, .ref aX8_restUp, .ref aX8_restDown, .int (i32 m_fewest), .int (i32 m_wishes), .ref aX8_wished, .ref aX8_far, .ref aX8_queue, .int (i32 m_divided), .ref aX8_divisors, .ref aX8_least, .long (i64 m_pairOne), .long (i64 m_pairTwo), .long (i64 m_sumUp), .long (i64 m_sumDown)])), (aX8_sumMany, aI X.cI 2000 m_sumMany), (aX8_sumShares, aI X.cI 12000 m_sumShares), (aX8_sumSet, aL X.cJ 2000 m_sumSet), (aX8_taken, aI X.cI 7 m_taken), (aX8_restUp, aL X.cJ 8 m_restUp), (aX8_restDown, aL X.cJ 8 m_restDown)] := by
  intro m_found m_sumMany m_sumShares m_sumSet m_taken m_restUp m_restDown m_fewest l1 l2 l3 l6 l7 l8 k0 r_m_found r_m_sumMany r_m_sumShares r_m_sumSet r_m_taken r_m_restUp r_m_restDown r_m_fewest r_l1 r_l2 r_l3 r_l6 r_l7 r_l8 r_k0 h
  rw [wp_X8_table_138] at h
  refine q_istore (lv' := [(5, .int (i32 k0)), (0, .ref hX8), (1, .int (i32 l1)), (2, .int (i32 l2)), (3, .int (i32 l3)), (6, .int (i32 l6)), (7, .int (i32 l7)), (8, .int (i32 l8))]) g 5   (by decide) rfl dX8_table_138 ?_
  refine q_iload g 8 7 rfl dX8_table_140 ?_
  refine q_iload g 6 5 rfl dX8_table_142 ?_
  refine q_icmp_le g (8) 152 r_l8 r_l6 (by decide) dX8_table_144 (fun b144 => ?_) (fun b144 => ?_)
  · replace h := h.1 b144
    refine q_iload g 6 5 rfl dX8_table_152 ?_
    refine q_lv (lv' := [(0, .ref hX8), (1, .int (i32 l1)), (2, .int (i32 l2)), (3, .int (i32 l3)), (5, .int (i32 k0)), (7, .int (i32 l7))]) [1, 2, 3, 4, 0, 6] rfl ?_
    exact s_X8_table_154 g hR hX8 aX8_ups aX8_downs m_many aX8_row m_isSpent aX8_sumMany aX8_sumShares aX8_sumSet aX8_taken aX8_restUp aX8_restDown m_wishes aX8_wished aX8_far aX8_queue m_divided aX8_divisors aX8_least m_pairOne m_pairTwo m_sumUp m_sumDown Q hF K_88 hK_88 m_found m_sumMany m_sumShares m_sumSet m_taken m_restUp m_restDown m_fewest l1 l2 l3 k0 l7 l6 r_m_found r_m_sumMany r_m_sumShares r_m_sumSet r_m_taken r_m_restUp r_m_restDown r_m_fewest r_l1 r_l2 r_l3 r_k0 r_l7 r_l6 h
  replace h := h.2 b144
  refine q_iload g 8 7 rfl dX8_table_147 ?_
  refine q_goto g (5) 154 (by decide) dX8_table_149 ?_
  refine q_lv (lv' := [(0, .ref hX8), (1, .int (i32 l1)), (2, .int (i32 l2)), (3, .int (i32 l3)), (5, .int (i32 k0)), (7, .int (i32 l7))]) [1, 2, 3, 4, 0, 6] rfl ?_
  exact s_X8_table_154 g hR hX8 aX8_ups aX8_downs m_many aX8_row m_isSpent aX8_sumMany aX8_sumShares aX8_sumSet aX8_taken aX8_restUp aX8_restDown m_wishes aX8_wished aX8_far aX8_queue m_divided aX8_divisors aX8_least m_pairOne m_pairTwo m_sumUp m_sumDown Q hF K_88 hK_88 m_found m_sumMany m_sumShares m_sumSet m_taken m_restUp m_restDown m_fewest l1 l2 l3 k0 l7 l8 r_m_found r_m_sumMany r_m_sumShares r_m_sumSet r_m_taken r_m_restUp r_m_restDown r_m_fewest r_l1 r_l2 r_l3 r_k0 r_l7 r_l8 h
def wp_X8_table_122 (Q : Int → Int → (Int → Int) → (Int → Int) → (Int → Int) → (Int → Int) → (Int → Int) → (Int → Int) → Int → Prop) (K_88 : Int → (Int → Int) → (Int → Int) → (Int → Int) → (Int → Int) → (Int → Int) → (Int → Int) → Int → Int → Int → Int → Int → Int → Int → Prop) (m_found : Int) (m_sumMany : Int → Int) (m_sumShares : Int → Int) (m_sumSet : Int → Int) (m_taken : Int → Int) (m_restUp : Int → Int) (m_restDown : Int → Int) (m_fewest : Int) (l1 : Int) (l2 : Int) (l3 : Int) (l5 : Int) (l6 : Int) (l7 : Int) (k0 : Int) : Prop := ((k0 ≤ l6 → wp_X8_table_138 Q K_88 m_found m_sumMany m_sumShares m_sumSet m_taken m_restUp m_restDown m_fewest l1 l2 l3 l6 l7 k0 l5) ∧
  (¬ (k0 ≤ l6) → wp_X8_table_138 Q K_88 m_found m_sumMany m_sumShares m_sumSet m_taken m_restUp m_restDown m_fewest l1 l2 l3 l6 l7 k0 l7))
set_option maxHeartbeats 4000000 in
set_option maxRecDepth 100000 in
theorem s_X8_table_122 {X : Cx} (g : Gd X cX8_table RX8 (some .int) 9) (hR : X.R = rmL 3 0 0) (hX8 : Nat) (aX8_ups : Nat) (aX8_downs : Nat) (m_many : Int) (aX8_row : Nat) (m_isSpent : Int) (aX8_sumMany : Nat) (aX8_sumShares : Nat) (aX8_sumSet : Nat) (aX8_taken : Nat) (aX8_restUp : Nat) (aX8_restDown : Nat) (m_wishes : Int) (aX8_wished : Nat) (aX8_far : Nat) (aX8_queue : Nat) (m_divided : Int) (aX8_divisors : Nat) (aX8_least : Nat) (m_pairOne : Int) (m_pairTwo : Int) (m_sumUp : Int) (m_sumDown : Int) (Q : Int → Int → (Int → Int) → (Int → Int) → (Int → Int) → (Int → Int) → (Int → Int) → (Int → Int) → Int → Prop) (hF : FQ X 0 0 (po_X8_table X.cI X.cJ hX8 aX8_ups aX8_downs m_many aX8_row m_isSpent aX8_sumMany aX8_sumShares aX8_sumSet aX8_taken aX8_restUp aX8_restDown m_wishes aX8_wished aX8_far aX8_queue m_divided aX8_divisors aX8_least m_pairOne m_pairTwo m_sumUp m_sumDown Q)) (K_88 : Int → (Int → Int) → (Int → Int) → (Int → Int) → (Int → Int) → (Int → Int) → (Int → Int) → Int → Int → Int → Int → Int → Int → Int → Prop) (hK_88 : ∀ (m_found : Int) (m_sumMany : Int → Int) (m_sumShares : Int → Int) (m_sumSet : Int → Int) (m_taken : Int → Int) (m_restUp : Int → Int) (m_restDown : Int → Int) (m_fewest : Int) (l1 : Int) (l2 : Int) (l3 : Int) (l5 : Int) (l6 : Int) (l7 : Int), r32 m_found → rr32 m_sumMany → rr32 m_sumShares → rr64 m_sumSet → rr32 m_taken → rr64 m_restUp → rr64 m_restDown → r32 m_fewest → r32 l1 → r32 l2 → r32 l3 → r32 l5 → r32 l6 → r32 l7 → K_88 m_found m_sumMany m_sumShares m_sumSet m_taken m_restUp m_restDown m_fewest l1 l2 l3 l5 l6 l7 → Wat X 0 0 88 [(0, .ref hX8), (1, .int (i32 l1)), (2, .int (i32 l2)), (3, .int (i32 l3)), (5, .int (i32 l5)), (6, .int (i32 l6)), (7, .int (i32 l7))] [] [(hX8, .inr (7, [.ref aX8_ups, .ref aX8_downs, .int (i32 m_many), .ref aX8_row, .int (i32 m_isSpent), .int (i32 m_found), .ref aX8_sumMany, .ref aX8_sumShares, .ref aX8_sumSet, .ref aX8_taken, .ref aX8_restUp, .ref aX8_restDown, .int (i32 m_fewest), .int (i32 m_wishes), .ref aX8_wished, .ref aX8_far, .ref aX8_queue, .int (i32 m_divided), .ref aX8_divisors, .ref aX8_least, .long (i64 m_pairOne), .long (i64 m_pairTwo), .long (i64 m_sumUp), .long (i64 m_sumDown)])), (aX8_sumMany, aI X.cI 2000 m_sumMany), (aX8_sumShares, aI X.cI 12000 m_sumShares), (aX8_sumSet, aL X.cJ 2000 m_sumSet), (aX8_taken, aI X.cI 7 m_taken), (aX8_restUp, aL X.cJ 8 m_restUp), (aX8_restDown, aL X.cJ 8 m_restDown)]) : ∀ (m_found : Int) (m_sumMany : Int → Int) (m_sumShares : Int → Int) (m_sumSet : Int → Int) (m_taken : Int → Int) (m_restUp : Int → Int) (m_restDown : Int → Int) (m_fewest : Int) (l1 : Int) (l2 : Int) (l3 : Int) (l5 : Int) (l6 : Int) (l7 : Int) (k0 : Int), r32 m_found → rr32 m_sumMany → rr32 m_sumShares → rr64 m_sumSet → rr32 m_taken → rr64 m_restUp → rr64 m_restDown → r32 m_fewest → r32 l1 → r32 l2 → r32 l3 → r32 l5 → r32 l6 → r32 l7 → r32 k0 → wp_X8_table_122 Q K_88 m_found m_sumMany m_sumShares m_sumSet m_taken m_restUp m_restDown m_fewest l1 l2 l3 l5 l6 l7 k0 → Wat X 0 0 122 [(0, .ref hX8), (1, .int (i32 l1)), (2, .int (i32 l2)), (3, .int (i32 l3)), (5, .int (i32 l5)), (6, .int (i32 l6)), (7, .int (i32 l7))] [.int (i32 k0)] [(hX8, .inr (7, [.ref aX8_ups, .ref aX8_downs, .int (i32 m_many), .ref aX8_row, .int (i32 m_isSpent), .int (i32 m_found), .ref aX8_sumMany, .ref aX8_sumShares, .ref aX8_sumSet, .ref aX8_taken, .ref aX8_restUp, .ref aX8_restDown, .int (i32 m_fewest), .int (i32 m_wishes), .ref aX8_wished, .ref aX8_far, .ref aX8_queue, .int (i32 m_divided), .ref aX8_divisors, .ref aX8_least, .long (i64 m_pairOne), .long (i64 m_pairTwo), .long (i64 m_sumUp), .long (i64 m_sumDown)])), (aX8_sumMany, aI X.cI 2000 m_sumMany), (aX8_sumShares, aI X.cI 12000 m_sumShares), (aX8_sumSet, aL X.cJ 2000 m_sumSet), (aX8_taken, aI X.cI 7 m_taken), (aX8_restUp, aL X.cJ 8 m_restUp), (aX8_restDown, aL X.cJ 8 m_restDown)] := by
  intro m_found m_sumMany m_sumShares m_sumSet m_taken m_restUp m_restDown m_fewest l1 l2 l3 l5 l6 l7 k0 r_m_found r_m_sumMany r_m_sumShares r_m_sumSet r_m_taken r_m_restUp r_m_restDown r_m_fewest r_l1 r_l2 r_l3 r_l5 r_l6 r_l7 r_k0 h
  rw [wp_X8_table_122] at h
  refine q_istore (lv' := [(8, .int (i32 k0)), (0, .ref hX8), (1, .int (i32 l1)), (2, .int (i32 l2)), (3, .int (i32 l3)), (5, .int (i32 l5)), (6, .int (i32 l6)), (7, .int (i32 l7))]) g 8   (by decide) rfl dX8_table_122 ?_
  refine q_iload g 8 0 rfl dX8_table_124 ?_
  refine q_iload g 6 6 rfl dX8_table_126 ?_
  refine q_icmp_le g (8) 136 r_k0 r_l6 (by decide) dX8_table_128 (fun b128 => ?_) (fun b128 => ?_)
  · replace h := h.1 b128
    refine q_iload g 5 5 rfl dX8_table_136 ?_
    refine q_lv (lv' := [(0, .ref hX8), (1, .int (i32 l1)), (2, .int (i32 l2)), (3, .int (i32 l3)), (6, .int (i32 l6)), (7, .int (i32 l7)), (8, .int (i32 k0))]) [1, 2, 3, 4, 6, 7, 0] rfl ?_
    exact s_X8_table_138 g hR hX8 aX8_ups aX8_downs m_many aX8_row m_isSpent aX8_sumMany aX8_sumShares aX8_sumSet aX8_taken aX8_restUp aX8_restDown m_wishes aX8_wished aX8_far aX8_queue m_divided aX8_divisors aX8_least m_pairOne m_pairTwo m_sumUp m_sumDown Q hF K_88 hK_88 m_found m_sumMany m_sumShares m_sumSet m_taken m_restUp m_restDown m_fewest l1 l2 l3 l6 l7 k0 l5 r_m_found r_m_sumMany r_m_sumShares r_m_sumSet r_m_taken r_m_restUp r_m_restDown r_m_fewest r_l1 r_l2 r_l3 r_l6 r_l7 r_k0 r_l5 h
  replace h := h.2 b128
  refine q_iload g 7 7 rfl dX8_table_131 ?_
  refine q_goto g (5) 138 (by decide) dX8_table_133 ?_
  refine q_lv (lv' := [(0, .ref hX8), (1, .int (i32 l1)), (2, .int (i32 l2)), (3, .int (i32 l3)), (6, .int (i32 l6)), (7, .int (i32 l7)), (8, .int (i32 k0))]) [1, 2, 3, 4, 6, 7, 0] rfl ?_
  exact s_X8_table_138 g hR hX8 aX8_ups aX8_downs m_many aX8_row m_isSpent aX8_sumMany aX8_sumShares aX8_sumSet aX8_taken aX8_restUp aX8_restDown m_wishes aX8_wished aX8_far aX8_queue m_divided aX8_divisors aX8_least m_pairOne m_pairTwo m_sumUp m_sumDown Q hF K_88 hK_88 m_found m_sumMany m_sumShares m_sumSet m_taken m_restUp m_restDown m_fewest l1 l2 l3 l6 l7 k0 l7 r_m_found r_m_sumMany r_m_sumShares r_m_sumSet r_m_taken r_m_restUp r_m_restDown r_m_fewest r_l1 r_l2 r_l3 r_l6 r_l7 r_k0 r_l7 h
def wp_X8_table_88 (Q : Int → Int → (Int → Int) → (Int → Int) → (Int → Int) → (Int → Int) → (Int → Int) → (Int → Int) → Int → Prop) : Nat → Int → (Int → Int) → (Int → Int) → (Int → Int) → (Int → Int) → (Int → Int) → (Int → Int) → Int → Int → Int → Int → Int → Int → Int → Prop
  | 0, _, _, _, _, _, _, _, _, _, _, _, _, _, _ => False
  | n + 1, m_found, m_sumMany, m_sumShares, m_sumSet, m_taken, m_restUp, m_restDown, m_fewest, l1, l2, l3, l5, l6, l7 => ((l1 ≤ l7 → Q l5 m_found m_sumMany m_sumShares m_sumSet m_taken m_restUp m_restDown m_fewest) ∧
  (¬ (l1 ≤ l7) → wp_X8_findSums (fun (m_found_103 : Int) (m_sumMany_103 : Int → Int) (m_sumShares_103 : Int → Int) (m_sumSet_103 : Int → Int) (m_taken_103 : Int → Int) (m_restUp_103 : Int → Int) (m_restDown_103 : Int → Int) (m_fewest_103 : Int) => ((0 ≤ m_fewest_103 → wp_X8_table_122 Q (wp_X8_table_88 Q n) m_found_103 m_sumMany_103 m_sumShares_103 m_sumSet_103 m_taken_103 m_restUp_103 m_restDown_103 m_fewest_103 l1 l2 l3 l5 l6 l7 m_fewest_103) ∧
  (¬ (0 ≤ m_fewest_103) → wp_X8_table_122 Q (wp_X8_table_88 Q n) m_found_103 m_sumMany_103 m_sumShares_103 m_sumSet_103 m_taken_103 m_restUp_103 m_restDown_103 m_fewest_103 l1 l2 l3 l5 l6 l7 99))) m_found m_sumMany m_sumShares m_sumSet m_taken m_restUp m_restDown m_fewest l7 l1 l2 l3 0))
set_option maxHeartbeats 4000000 in
set_option maxRecDepth 100000 in
theorem s_X8_table_88 {X : Cx} (g : Gd X cX8_table RX8 (some .int) 9) (hR : X.R = rmL 3 0 0) (hX8 : Nat) (aX8_ups : Nat) (aX8_downs : Nat) (m_many : Int) (aX8_row : Nat) (m_isSpent : Int) (aX8_sumMany : Nat) (aX8_sumShares : Nat) (aX8_sumSet : Nat) (aX8_taken : Nat) (aX8_restUp : Nat) (aX8_restDown : Nat) (m_wishes : Int) (aX8_wished : Nat) (aX8_far : Nat) (aX8_queue : Nat) (m_divided : Int) (aX8_divisors : Nat) (aX8_least : Nat) (m_pairOne : Int) (m_pairTwo : Int) (m_sumUp : Int) (m_sumDown : Int) (Q : Int → Int → (Int → Int) → (Int → Int) → (Int → Int) → (Int → Int) → (Int → Int) → (Int → Int) → Int → Prop) (hF : FQ X 0 0 (po_X8_table X.cI X.cJ hX8 aX8_ups aX8_downs m_many aX8_row m_isSpent aX8_sumMany aX8_sumShares aX8_sumSet aX8_taken aX8_restUp aX8_restDown m_wishes aX8_wished aX8_far aX8_queue m_divided aX8_divisors aX8_least m_pairOne m_pairTwo m_sumUp m_sumDown Q)) : ∀ (n : Nat) (m_found : Int) (m_sumMany : Int → Int) (m_sumShares : Int → Int) (m_sumSet : Int → Int) (m_taken : Int → Int) (m_restUp : Int → Int) (m_restDown : Int → Int) (m_fewest : Int) (l1 : Int) (l2 : Int) (l3 : Int) (l5 : Int) (l6 : Int) (l7 : Int), r32 m_found → rr32 m_sumMany → rr32 m_sumShares → rr64 m_sumSet → rr32 m_taken → rr64 m_restUp → rr64 m_restDown → r32 m_fewest → r32 l1 → r32 l2 → r32 l3 → r32 l5 → r32 l6 → r32 l7 → wp_X8_table_88 Q n m_found m_sumMany m_sumShares m_sumSet m_taken m_restUp m_restDown m_fewest l1 l2 l3 l5 l6 l7 → Wat X 0 0 88 [(0, .ref hX8), (1, .int (i32 l1)), (2, .int (i32 l2)), (3, .int (i32 l3)), (5, .int (i32 l5)), (6, .int (i32 l6)), (7, .int (i32 l7))] [] [(hX8, .inr (7, [.ref aX8_ups, .ref aX8_downs, .int (i32 m_many), .ref aX8_row, .int (i32 m_isSpent), .int (i32 m_found), .ref aX8_sumMany, .ref aX8_sumShares, .ref aX8_sumSet, .ref aX8_taken, .ref aX8_restUp, .ref aX8_restDown, .int (i32 m_fewest), .int (i32 m_wishes), .ref aX8_wished, .ref aX8_far, .ref aX8_queue, .int (i32 m_divided), .ref aX8_divisors, .ref aX8_least, .long (i64 m_pairOne), .long (i64 m_pairTwo), .long (i64 m_sumUp), .long (i64 m_sumDown)])), (aX8_sumMany, aI X.cI 2000 m_sumMany), (aX8_sumShares, aI X.cI 12000 m_sumShares), (aX8_sumSet, aL X.cJ 2000 m_sumSet), (aX8_taken, aI X.cI 7 m_taken), (aX8_restUp, aL X.cJ 8 m_restUp), (aX8_restDown, aL X.cJ 8 m_restDown)] := by
  intro n
  induction n with
  | zero => intro m_found m_sumMany m_sumShares m_sumSet m_taken m_restUp m_restDown m_fewest l1 l2 l3 l5 l6 l7 r_m_found r_m_sumMany r_m_sumShares r_m_sumSet r_m_taken r_m_restUp r_m_restDown r_m_fewest r_l1 r_l2 r_l3 r_l5 r_l6 r_l7 h; exact False.elim h
  | succ n ih =>
    intro m_found m_sumMany m_sumShares m_sumSet m_taken m_restUp m_restDown m_fewest l1 l2 l3 l5 l6 l7 r_m_found r_m_sumMany r_m_sumShares r_m_sumSet r_m_taken r_m_restUp r_m_restDown r_m_fewest r_l1 r_l2 r_l3 r_l5 r_l6 r_l7 h
    rw [wp_X8_table_88] at h
    refine q_iload g 7 6 rfl dX8_table_88 ?_
    refine q_iload_n g 1 1 rfl dX8_table_90 ?_
    refine q_icmp_ge g (71) 162 r_l7 r_l1 (by decide) dX8_table_91 (fun b91 => ?_) (fun b91 => ?_)
    · replace h := h.1 b91
      refine q_iload g 5 4 rfl dX8_table_162 ?_
      exact q_iret g hF ⟨l5, m_found, m_sumMany, m_sumShares, m_sumSet, m_taken, m_restUp, m_restDown, m_fewest, rfl, rfl, r_l5, r_m_found, r_m_sumMany, r_m_sumShares, r_m_sumSet, r_m_taken, r_m_restUp, r_m_restDown, r_m_fewest, h⟩ dX8_table_164
    replace h := h.2 b91
    refine q_aload_n g 0 0 rfl dX8_table_94 ?_
    refine q_iload g 7 6 rfl dX8_table_95 ?_
    refine q_i2l g r_l7 dX8_table_97 ?_
    refine q_iload_n g 1 1 rfl dX8_table_98 ?_
    refine q_i2l g r_l1 dX8_table_99 ?_
    refine q_iload_n g 2 2 rfl dX8_table_100 ?_
    refine q_iload_n g 3 3 rfl dX8_table_101 ?_
    refine q_iconst g (0) dX8_table_102 ?_
    refine q_callV (lev := 2) (mc := 0) (ms := 0) g 151 (c_X8_findSums X.l X.D X.cI X.cJ X.zt hX8 aX8_ups aX8_downs m_many aX8_row m_isSpent m_found aX8_sumMany aX8_sumShares aX8_sumSet aX8_taken aX8_restUp aX8_restDown m_fewest m_wishes aX8_wished aX8_far aX8_queue m_divided aX8_divisors aX8_least m_pairOne m_pairTwo m_sumUp m_sumDown m_sumMany m_sumShares m_sumSet m_taken m_restUp m_restDown l7 l1 l2 l3 0 _ r_m_found r_m_sumMany r_m_sumShares r_m_sumSet r_m_taken r_m_restUp r_m_restDown r_m_fewest (r32_64 r_l7) (r32_64 r_l1) r_l2 r_l3 (r32_lit _ (by decide)) h) (wr := []) [0, 1, 2, 3, 4, 5, 6] [] rfl rfl rfl (by decide) (by decide) (by decide) (ci := 7) rfl rfl rfl wM_X8_151 wI_X8_findSums wS_X8_findSums wZ_X8 wC_X8_findSums 5 rfl (by decide +kernel) (by rw [hR]; exact ⟨by show 2 + 1 ≤ 3; omega, by show 8 + (23 + 11) + 100 * 2 ≤ 100 * 3; omega⟩) (by rw [hR]; exact ⟨Nat.le_refl _, Nat.le_refl _⟩) (Nat.le_of_ble_eq_true rfl) rfl dX8_table_103 (fun rv w1 hq => ?_)
    obtain ⟨m_found_103, m_sumMany_103, m_sumShares_103, m_sumSet_103, m_taken_103, m_restUp_103, m_restDown_103, m_fewest_103, rfl, rfl, rm_found_103, rm_sumMany_103, rm_sumShares_103, rm_sumSet_103, rm_taken_103, rm_restUp_103, rm_restDown_103, rm_fewest_103, h⟩ := hq
    show Wat X 0 0 106 [(0, .ref hX8), (1, .int (i32 l1)), (2, .int (i32 l2)), (3, .int (i32 l3)), (5, .int (i32 l5)), (6, .int (i32 l6)), (7, .int (i32 l7))] [] [(hX8, .inr (7, [.ref aX8_ups, .ref aX8_downs, .int (i32 m_many), .ref aX8_row, .int (i32 m_isSpent), .int (i32 m_found_103), .ref aX8_sumMany, .ref aX8_sumShares, .ref aX8_sumSet, .ref aX8_taken, .ref aX8_restUp, .ref aX8_restDown, .int (i32 m_fewest_103), .int (i32 m_wishes), .ref aX8_wished, .ref aX8_far, .ref aX8_queue, .int (i32 m_divided), .ref aX8_divisors, .ref aX8_least, .long (i64 m_pairOne), .long (i64 m_pairTwo), .long (i64 m_sumUp), .long (i64 m_sumDown)])), (aX8_sumMany, aI X.cI 2000 m_sumMany_103), (aX8_sumShares, aI X.cI 12000 m_sumShares_103), (aX8_sumSet, aL X.cJ 2000 m_sumSet_103), (aX8_taken, aI X.cI 7 m_taken_103), (aX8_restUp, aL X.cJ 8 m_restUp_103), (aX8_restDown, aL X.cJ 8 m_restDown_103)]
    refine q_aload_n g 0 0 rfl dX8_table_106 ?_
    refine q_get (C := RX8) (T := TX8) (N := 24) g 137 inX8 0 12 rfl rfl (by decide) wF_X8_137 rfl dX8_table_107 ?_
    refine q_if_ge g (8) 118 rm_fewest_103 (by decide) dX8_table_110 (fun b110 => ?_) (fun b110 => ?_)
    · replace h := h.1 b110
      refine q_aload_n g 0 0 rfl dX8_table_118 ?_
      refine q_get (C := RX8) (T := TX8) (N := 24) g 137 inX8 0 12 rfl rfl (by decide) wF_X8_137 rfl dX8_table_119 ?_
      exact s_X8_table_122 g hR hX8 aX8_ups aX8_downs m_many aX8_row m_isSpent aX8_sumMany aX8_sumShares aX8_sumSet aX8_taken aX8_restUp aX8_restDown m_wishes aX8_wished aX8_far aX8_queue m_divided aX8_divisors aX8_least m_pairOne m_pairTwo m_sumUp m_sumDown Q hF (wp_X8_table_88 Q n) (fun v0 v1 v2 v3 v4 v5 v6 v7 v8 v9 v10 v11 v12 v13 w0 w1 w2 w3 w4 w5 w6 w7 w8 w9 w10 w11 w12 w13 hh => ih v0 v1 v2 v3 v4 v5 v6 v7 v8 v9 v10 v11 v12 v13 w0 w1 w2 w3 w4 w5 w6 w7 w8 w9 w10 w11 w12 w13 hh) m_found_103 m_sumMany_103 m_sumShares_103 m_sumSet_103 m_taken_103 m_restUp_103 m_restDown_103 m_fewest_103 l1 l2 l3 l5 l6 l7 m_fewest_103 rm_found_103 rm_sumMany_103 rm_sumShares_103 rm_sumSet_103 rm_taken_103 rm_restUp_103 rm_restDown_103 rm_fewest_103 r_l1 r_l2 r_l3 r_l5 r_l6 r_l7 rm_fewest_103 h
    replace h := h.2 b110
    refine q_bipush g (99) (by decide) (by decide) dX8_table_113 ?_
    refine q_goto g (7) 122 (by decide) dX8_table_115 ?_
    exact s_X8_table_122 g hR hX8 aX8_ups aX8_downs m_many aX8_row m_isSpent aX8_sumMany aX8_sumShares aX8_sumSet aX8_taken aX8_restUp aX8_restDown m_wishes aX8_wished aX8_far aX8_queue m_divided aX8_divisors aX8_least m_pairOne m_pairTwo m_sumUp m_sumDown Q hF (wp_X8_table_88 Q n) (fun v0 v1 v2 v3 v4 v5 v6 v7 v8 v9 v10 v11 v12 v13 w0 w1 w2 w3 w4 w5 w6 w7 w8 w9 w10 w11 w12 w13 hh => ih v0 v1 v2 v3 v4 v5 v6 v7 v8 v9 v10 v11 v12 v13 w0 w1 w2 w3 w4 w5 w6 w7 w8 w9 w10 w11 w12 w13 hh) m_found_103 m_sumMany_103 m_sumShares_103 m_sumSet_103 m_taken_103 m_restUp_103 m_restDown_103 m_fewest_103 l1 l2 l3 l5 l6 l7 99 rm_found_103 rm_sumMany_103 rm_sumShares_103 rm_sumSet_103 rm_taken_103 rm_restUp_103 rm_restDown_103 rm_fewest_103 r_l1 r_l2 r_l3 r_l5 r_l6 r_l7 (r32_lit _ (by decide)) h
def wp_X8_table (Q : Int → Int → (Int → Int) → (Int → Int) → (Int → Int) → (Int → Int) → (Int → Int) → (Int → Int) → Int → Prop) (m_found : Int) (m_sumMany : Int → Int) (m_sumShares : Int → Int) (m_sumSet : Int → Int) (m_taken : Int → Int) (m_restUp : Int → Int) (m_restDown : Int → Int) (m_fewest : Int) (l1 : Int) (l2 : Int) (l3 : Int) (l4 : Int) : Prop := wp_X8_in (fun (x8 : Int) => ((x8 = 0 → wp_X8_table_54 Q m_found m_sumMany m_sumShares m_sumSet m_taken m_restUp m_restDown m_fewest) ∧
  (¬ (x8 = 0) → wp_X8_in (fun (x22 : Int) => ((x22 = 0 → wp_X8_table_54 Q m_found m_sumMany m_sumShares m_sumSet m_taken m_restUp m_restDown m_fewest) ∧
  (¬ (x22 = 0) → wp_X8_in (fun (x34 : Int) => ((x34 = 0 → wp_X8_table_54 Q m_found m_sumMany m_sumShares m_sumSet m_taken m_restUp m_restDown m_fewest) ∧
  (¬ (x34 = 0) → (r32 (l1 - 1) ∧ wp_X8_in (fun (x48 : Int) => ((¬ x48 = 0 → ((l4 ≤ 0 → (∃ n0 : Nat, wp_X8_table_88 Q n0 m_found m_sumMany m_sumShares m_sumSet m_taken m_restUp m_restDown m_fewest l1 l2 l3 (-4) 0 1)) ∧
  (¬ (l4 ≤ 0) → wp_X8_findSums (fun (m_found_70 : Int) (m_sumMany_70 : Int → Int) (m_sumShares_70 : Int → Int) (m_sumSet_70 : Int → Int) (m_taken_70 : Int → Int) (m_restUp_70 : Int → Int) (m_restDown_70 : Int → Int) (m_fewest_70 : Int) => Q m_fewest_70 m_found_70 m_sumMany_70 m_sumShares_70 m_sumSet_70 m_taken_70 m_restUp_70 m_restDown_70 m_fewest_70) m_found m_sumMany m_sumShares m_sumSet m_taken m_restUp m_restDown m_fewest l4 l1 l2 l3 0))) ∧
  (x48 = 0 → wp_X8_table_54 Q m_found m_sumMany m_sumShares m_sumSet m_taken m_restUp m_restDown m_fewest))) l4 0 (l1 - 1))))) l3 1 4))) l2 2 40))) l1 2 60
set_option maxHeartbeats 4000000 in
set_option maxRecDepth 100000 in
theorem c_X8_table (l : Launch) (D : va_G) (cI cJ : ClassId) (zt : Nat) (hX8 : Nat) (aX8_ups : Nat) (aX8_downs : Nat) (m_many : Int) (aX8_row : Nat) (m_isSpent : Int) (m_found : Int) (aX8_sumMany : Nat) (aX8_sumShares : Nat) (aX8_sumSet : Nat) (aX8_taken : Nat) (aX8_restUp : Nat) (aX8_restDown : Nat) (m_fewest : Int) (m_wishes : Int) (aX8_wished : Nat) (aX8_far : Nat) (aX8_queue : Nat) (m_divided : Int) (aX8_divisors : Nat) (aX8_least : Nat) (m_pairOne : Int) (m_pairTwo : Int) (m_sumUp : Int) (m_sumDown : Int) (m_sumMany : Int → Int) (m_sumShares : Int → Int) (m_sumSet : Int → Int) (m_taken : Int → Int) (m_restUp : Int → Int) (m_restDown : Int → Int) (l1 : Int) (l2 : Int) (l3 : Int) (l4 : Int) (Q : Int → Int → (Int → Int) → (Int → Int) → (Int → Int) → (Int → Int) → (Int → Int) → (Int → Int) → Int → Prop) (r_m_found : r32 m_found) (r_m_sumMany : rr32 m_sumMany) (r_m_sumShares : rr32 m_sumShares) (r_m_sumSet : rr64 m_sumSet) (r_m_taken : rr32 m_taken) (r_m_restUp : rr64 m_restUp) (r_m_restDown : rr64 m_restDown) (r_m_fewest : r32 m_fewest) (r_l1 : r32 l1) (r_l2 : r32 l2) (r_l3 : r32 l3) (r_l4 : r32 l4) (h : wp_X8_table Q m_found m_sumMany m_sumShares m_sumSet m_taken m_restUp m_restDown m_fewest l1 l2 l3 l4) : Ct l D cI cJ zt yX8_table cX8_table 9 (some .int) 3 0 0 [.ref hX8, .int (i32 l1), .int (i32 l2), .int (i32 l3), .int (i32 l4)] [(hX8, .inr (7, [.ref aX8_ups, .ref aX8_downs, .int (i32 m_many), .ref aX8_row, .int (i32 m_isSpent), .int (i32 m_found), .ref aX8_sumMany, .ref aX8_sumShares, .ref aX8_sumSet, .ref aX8_taken, .ref aX8_restUp, .ref aX8_restDown, .int (i32 m_fewest), .int (i32 m_wishes), .ref aX8_wished, .ref aX8_far, .ref aX8_queue, .int (i32 m_divided), .ref aX8_divisors, .ref aX8_least, .long (i64 m_pairOne), .long (i64 m_pairTwo), .long (i64 m_sumUp), .long (i64 m_sumDown)])), (aX8_sumMany, aI cI 2000 m_sumMany), (aX8_sumShares, aI cI 12000 m_sumShares), (aX8_sumSet, aL cJ 2000 m_sumSet), (aX8_taken, aI cI 7 m_taken), (aX8_restUp, aL cJ 8 m_restUp), (aX8_restDown, aL cJ 8 m_restDown)] (po_X8_table cI cJ hX8 aX8_ups aX8_downs m_many aX8_row m_isSpent aX8_sumMany aX8_sumShares aX8_sumSet aX8_taken aX8_restUp aX8_restDown m_wishes aX8_wished aX8_far aX8_queue m_divided aX8_divisors aX8_least m_pairOne m_pairTwo m_sumUp m_sumDown Q) := by
  refine ct_of (by decide +kernel) (Nat.le_of_ble_eq_true rfl) (fun X hl hDD hcI hcJ hzt hR hF hnm g => ?_)
  subst hl; subst hDD; subst hcI; subst hcJ; subst hzt
  show Wat X 0 0 0 [(0, .ref hX8), (1, .int (i32 l1)), (2, .int (i32 l2)), (3, .int (i32 l3)), (4, .int (i32 l4))] [] [(hX8, .inr (7, [.ref aX8_ups, .ref aX8_downs, .int (i32 m_many), .ref aX8_row, .int (i32 m_isSpent), .int (i32 m_found), .ref aX8_sumMany, .ref aX8_sumShares, .ref aX8_sumSet, .ref aX8_taken, .ref aX8_restUp, .ref aX8_restDown, .int (i32 m_fewest), .int (i32 m_wishes), .ref aX8_wished, .ref aX8_far, .ref aX8_queue, .int (i32 m_divided), .ref aX8_divisors, .ref aX8_least, .long (i64 m_pairOne), .long (i64 m_pairTwo), .long (i64 m_sumUp), .long (i64 m_sumDown)])), (aX8_sumMany, aI X.cI 2000 m_sumMany), (aX8_sumShares, aI X.cI 12000 m_sumShares), (aX8_sumSet, aL X.cJ 2000 m_sumSet), (aX8_taken, aI X.cI 7 m_taken), (aX8_restUp, aL X.cJ 8 m_restUp), (aX8_restDown, aL X.cJ 8 m_restDown)]
  replace g : Gd X cX8_table RX8 (some .int) 9 := g
  rw [wp_X8_table] at h
  refine q_iload_n g 1 1 rfl dX8_table_0 ?_
  refine q_i2l g r_l1 dX8_table_1 ?_
  refine q_ldc2 (w := 2) g 89 (2) (by decide +kernel) wL_X8_89 dX8_table_2 ?_
  refine q_ldc2 (w := 60) g 144 (60) (by decide +kernel) wL_X8_144 dX8_table_5 ?_
  refine q_callS (lev := 1) (mc := 0) (ms := 0) (As := [.long (i64 l1), .long (i64 2), .long (i64 60)]) g 60 (c_X8_in X.l X.D X.cI X.cJ X.zt l1 2 60 _ (r32_64 r_l1) (r64_lit _ (by decide)) (r64_lit _ (by decide)) h) (wr := [(hX8, .inr (7, [.ref aX8_ups, .ref aX8_downs, .int (i32 m_many), .ref aX8_row, .int (i32 m_isSpent), .int (i32 m_found), .ref aX8_sumMany, .ref aX8_sumShares, .ref aX8_sumSet, .ref aX8_taken, .ref aX8_restUp, .ref aX8_restDown, .int (i32 m_fewest), .int (i32 m_wishes), .ref aX8_wished, .ref aX8_far, .ref aX8_queue, .int (i32 m_divided), .ref aX8_divisors, .ref aX8_least, .long (i64 m_pairOne), .long (i64 m_pairTwo), .long (i64 m_sumUp), .long (i64 m_sumDown)])), (aX8_sumMany, aI X.cI 2000 m_sumMany), (aX8_sumShares, aI X.cI 12000 m_sumShares), (aX8_sumSet, aL X.cJ 2000 m_sumSet), (aX8_taken, aI X.cI 7 m_taken), (aX8_restUp, aL X.cJ 8 m_restUp), (aX8_restDown, aL X.cJ 8 m_restDown)]) [] [0, 1, 2, 3, 4, 5, 6] rfl rfl rfl (by decide) (by decide) (by decide) wM_X8_60 wT_X8_in wZ_X8 wC_X8_in 3 rfl (by decide +kernel) (by rw [hR]; exact ⟨by show 1 + 1 ≤ 3; omega, by show 8 + (6 + 11) + 100 * 1 ≤ 100 * 3; omega⟩) (by rw [hR]; exact ⟨Nat.le_refl _, Nat.le_refl _⟩) (Nat.le_of_ble_eq_true rfl) rfl dX8_table_8 (fun rv w1 hq => ?_)
  obtain ⟨x8, rfl, rfl, rx8, h⟩ := hq
  show Wat X 0 0 11 [(0, .ref hX8), (1, .int (i32 l1)), (2, .int (i32 l2)), (3, .int (i32 l3)), (4, .int (i32 l4))] [.int (i32 x8)] [(hX8, .inr (7, [.ref aX8_ups, .ref aX8_downs, .int (i32 m_many), .ref aX8_row, .int (i32 m_isSpent), .int (i32 m_found), .ref aX8_sumMany, .ref aX8_sumShares, .ref aX8_sumSet, .ref aX8_taken, .ref aX8_restUp, .ref aX8_restDown, .int (i32 m_fewest), .int (i32 m_wishes), .ref aX8_wished, .ref aX8_far, .ref aX8_queue, .int (i32 m_divided), .ref aX8_divisors, .ref aX8_least, .long (i64 m_pairOne), .long (i64 m_pairTwo), .long (i64 m_sumUp), .long (i64 m_sumDown)])), (aX8_sumMany, aI X.cI 2000 m_sumMany), (aX8_sumShares, aI X.cI 12000 m_sumShares), (aX8_sumSet, aL X.cJ 2000 m_sumSet), (aX8_taken, aI X.cI 7 m_taken), (aX8_restUp, aL X.cJ 8 m_restUp), (aX8_restDown, aL X.cJ 8 m_restDown)]
  refine q_if_eq g (43) 54 rx8 (by decide) dX8_table_11 (fun b11 => ?_) (fun b11 => ?_)
  · replace h := h.1 b11
    refine q_lv (lv' := []) [] rfl ?_
    exact s_X8_table_54 g hR hX8 aX8_ups aX8_downs m_many aX8_row m_isSpent aX8_sumMany aX8_sumShares aX8_sumSet aX8_taken aX8_restUp aX8_restDown m_wishes aX8_wished aX8_far aX8_queue m_divided aX8_divisors aX8_least m_pairOne m_pairTwo m_sumUp m_sumDown Q hF m_found m_sumMany m_sumShares m_sumSet m_taken m_restUp m_restDown m_fewest r_m_found r_m_sumMany r_m_sumShares r_m_sumSet r_m_taken r_m_restUp r_m_restDown r_m_fewest h
  replace h := h.2 b11
  refine q_iload_n g 2 2 rfl dX8_table_14 ?_
  refine q_i2l g r_l2 dX8_table_15 ?_
  refine q_ldc2 (w := 2) g 89 (2) (by decide +kernel) wL_X8_89 dX8_table_16 ?_
  refine q_ldc2 (w := 40) g 214 (40) (by decide +kernel) wL_X8_214 dX8_table_19 ?_
  refine q_callS (lev := 1) (mc := 0) (ms := 0) (As := [.long (i64 l2), .long (i64 2), .long (i64 40)]) g 60 (c_X8_in X.l X.D X.cI X.cJ X.zt l2 2 40 _ (r32_64 r_l2) (r64_lit _ (by decide)) (r64_lit _ (by decide)) h) (wr := [(hX8, .inr (7, [.ref aX8_ups, .ref aX8_downs, .int (i32 m_many), .ref aX8_row, .int (i32 m_isSpent), .int (i32 m_found), .ref aX8_sumMany, .ref aX8_sumShares, .ref aX8_sumSet, .ref aX8_taken, .ref aX8_restUp, .ref aX8_restDown, .int (i32 m_fewest), .int (i32 m_wishes), .ref aX8_wished, .ref aX8_far, .ref aX8_queue, .int (i32 m_divided), .ref aX8_divisors, .ref aX8_least, .long (i64 m_pairOne), .long (i64 m_pairTwo), .long (i64 m_sumUp), .long (i64 m_sumDown)])), (aX8_sumMany, aI X.cI 2000 m_sumMany), (aX8_sumShares, aI X.cI 12000 m_sumShares), (aX8_sumSet, aL X.cJ 2000 m_sumSet), (aX8_taken, aI X.cI 7 m_taken), (aX8_restUp, aL X.cJ 8 m_restUp), (aX8_restDown, aL X.cJ 8 m_restDown)]) [] [0, 1, 2, 3, 4, 5, 6] rfl rfl rfl (by decide) (by decide) (by decide) wM_X8_60 wT_X8_in wZ_X8 wC_X8_in 3 rfl (by decide +kernel) (by rw [hR]; exact ⟨by show 1 + 1 ≤ 3; omega, by show 8 + (6 + 11) + 100 * 1 ≤ 100 * 3; omega⟩) (by rw [hR]; exact ⟨Nat.le_refl _, Nat.le_refl _⟩) (Nat.le_of_ble_eq_true rfl) rfl dX8_table_22 (fun rv w1 hq => ?_)
  obtain ⟨x22, rfl, rfl, rx22, h⟩ := hq
  show Wat X 0 0 25 [(0, .ref hX8), (1, .int (i32 l1)), (2, .int (i32 l2)), (3, .int (i32 l3)), (4, .int (i32 l4))] [.int (i32 x22)] [(hX8, .inr (7, [.ref aX8_ups, .ref aX8_downs, .int (i32 m_many), .ref aX8_row, .int (i32 m_isSpent), .int (i32 m_found), .ref aX8_sumMany, .ref aX8_sumShares, .ref aX8_sumSet, .ref aX8_taken, .ref aX8_restUp, .ref aX8_restDown, .int (i32 m_fewest), .int (i32 m_wishes), .ref aX8_wished, .ref aX8_far, .ref aX8_queue, .int (i32 m_divided), .ref aX8_divisors, .ref aX8_least, .long (i64 m_pairOne), .long (i64 m_pairTwo), .long (i64 m_sumUp), .long (i64 m_sumDown)])), (aX8_sumMany, aI X.cI 2000 m_sumMany), (aX8_sumShares, aI X.cI 12000 m_sumShares), (aX8_sumSet, aL X.cJ 2000 m_sumSet), (aX8_taken, aI X.cI 7 m_taken), (aX8_restUp, aL X.cJ 8 m_restUp), (aX8_restDown, aL X.cJ 8 m_restDown)]
  refine q_if_eq g (29) 54 rx22 (by decide) dX8_table_25 (fun b25 => ?_) (fun b25 => ?_)
  · replace h := h.1 b25
    refine q_lv (lv' := []) [] rfl ?_
    exact s_X8_table_54 g hR hX8 aX8_ups aX8_downs m_many aX8_row m_isSpent aX8_sumMany aX8_sumShares aX8_sumSet aX8_taken aX8_restUp aX8_restDown m_wishes aX8_wished aX8_far aX8_queue m_divided aX8_divisors aX8_least m_pairOne m_pairTwo m_sumUp m_sumDown Q hF m_found m_sumMany m_sumShares m_sumSet m_taken m_restUp m_restDown m_fewest r_m_found r_m_sumMany r_m_sumShares r_m_sumSet r_m_taken r_m_restUp r_m_restDown r_m_fewest h
  replace h := h.2 b25
  refine q_iload_n g 3 3 rfl dX8_table_28 ?_
  refine q_i2l g r_l3 dX8_table_29 ?_
  refine q_lconst g 1 1 rfl dX8_table_30 ?_
  refine q_ldc2 (w := 4) g 124 (4) (by decide +kernel) wL_X8_124 dX8_table_31 ?_
  refine q_callS (lev := 1) (mc := 0) (ms := 0) (As := [.long (i64 l3), .long (i64 1), .long (i64 4)]) g 60 (c_X8_in X.l X.D X.cI X.cJ X.zt l3 1 4 _ (r32_64 r_l3) (r64_lit _ (by decide)) (r64_lit _ (by decide)) h) (wr := [(hX8, .inr (7, [.ref aX8_ups, .ref aX8_downs, .int (i32 m_many), .ref aX8_row, .int (i32 m_isSpent), .int (i32 m_found), .ref aX8_sumMany, .ref aX8_sumShares, .ref aX8_sumSet, .ref aX8_taken, .ref aX8_restUp, .ref aX8_restDown, .int (i32 m_fewest), .int (i32 m_wishes), .ref aX8_wished, .ref aX8_far, .ref aX8_queue, .int (i32 m_divided), .ref aX8_divisors, .ref aX8_least, .long (i64 m_pairOne), .long (i64 m_pairTwo), .long (i64 m_sumUp), .long (i64 m_sumDown)])), (aX8_sumMany, aI X.cI 2000 m_sumMany), (aX8_sumShares, aI X.cI 12000 m_sumShares), (aX8_sumSet, aL X.cJ 2000 m_sumSet), (aX8_taken, aI X.cI 7 m_taken), (aX8_restUp, aL X.cJ 8 m_restUp), (aX8_restDown, aL X.cJ 8 m_restDown)]) [] [0, 1, 2, 3, 4, 5, 6] rfl rfl rfl (by decide) (by decide) (by decide) wM_X8_60 wT_X8_in wZ_X8 wC_X8_in 3 rfl (by decide +kernel) (by rw [hR]; exact ⟨by show 1 + 1 ≤ 3; omega, by show 8 + (6 + 11) + 100 * 1 ≤ 100 * 3; omega⟩) (by rw [hR]; exact ⟨Nat.le_refl _, Nat.le_refl _⟩) (Nat.le_of_ble_eq_true rfl) rfl dX8_table_34 (fun rv w1 hq => ?_)
  obtain ⟨x34, rfl, rfl, rx34, h⟩ := hq
  show Wat X 0 0 37 [(0, .ref hX8), (1, .int (i32 l1)), (2, .int (i32 l2)), (3, .int (i32 l3)), (4, .int (i32 l4))] [.int (i32 x34)] [(hX8, .inr (7, [.ref aX8_ups, .ref aX8_downs, .int (i32 m_many), .ref aX8_row, .int (i32 m_isSpent), .int (i32 m_found), .ref aX8_sumMany, .ref aX8_sumShares, .ref aX8_sumSet, .ref aX8_taken, .ref aX8_restUp, .ref aX8_restDown, .int (i32 m_fewest), .int (i32 m_wishes), .ref aX8_wished, .ref aX8_far, .ref aX8_queue, .int (i32 m_divided), .ref aX8_divisors, .ref aX8_least, .long (i64 m_pairOne), .long (i64 m_pairTwo), .long (i64 m_sumUp), .long (i64 m_sumDown)])), (aX8_sumMany, aI X.cI 2000 m_sumMany), (aX8_sumShares, aI X.cI 12000 m_sumShares), (aX8_sumSet, aL X.cJ 2000 m_sumSet), (aX8_taken, aI X.cI 7 m_taken), (aX8_restUp, aL X.cJ 8 m_restUp), (aX8_restDown, aL X.cJ 8 m_restDown)]
  refine q_if_eq g (17) 54 rx34 (by decide) dX8_table_37 (fun b37 => ?_) (fun b37 => ?_)
  · replace h := h.1 b37
    refine q_lv (lv' := []) [] rfl ?_
    exact s_X8_table_54 g hR hX8 aX8_ups aX8_downs m_many aX8_row m_isSpent aX8_sumMany aX8_sumShares aX8_sumSet aX8_taken aX8_restUp aX8_restDown m_wishes aX8_wished aX8_far aX8_queue m_divided aX8_divisors aX8_least m_pairOne m_pairTwo m_sumUp m_sumDown Q hF m_found m_sumMany m_sumShares m_sumSet m_taken m_restUp m_restDown m_fewest r_m_found r_m_sumMany r_m_sumShares r_m_sumSet r_m_taken r_m_restUp r_m_restDown r_m_fewest h
  replace h := h.2 b37
  refine q_iload g 4 4 rfl dX8_table_40 ?_
  refine q_i2l g r_l4 dX8_table_42 ?_
  refine q_lconst g 0 0 rfl dX8_table_43 ?_
  refine q_iload_n g 1 1 rfl dX8_table_44 ?_
  refine q_iconst g (1) dX8_table_45 ?_
  obtain ⟨c46, h⟩ := h
  refine q_isub g dX8_table_46 ?_
  refine q_i2l g c46 dX8_table_47 ?_
  refine q_callS (lev := 1) (mc := 0) (ms := 0) (As := [.long (i64 l4), .long (i64 0), .long (i64 (l1 - 1))]) g 60 (c_X8_in X.l X.D X.cI X.cJ X.zt l4 0 (l1 - 1) _ (r32_64 r_l4) (r64_lit _ (by decide)) (r32_64 c46) h) (wr := [(hX8, .inr (7, [.ref aX8_ups, .ref aX8_downs, .int (i32 m_many), .ref aX8_row, .int (i32 m_isSpent), .int (i32 m_found), .ref aX8_sumMany, .ref aX8_sumShares, .ref aX8_sumSet, .ref aX8_taken, .ref aX8_restUp, .ref aX8_restDown, .int (i32 m_fewest), .int (i32 m_wishes), .ref aX8_wished, .ref aX8_far, .ref aX8_queue, .int (i32 m_divided), .ref aX8_divisors, .ref aX8_least, .long (i64 m_pairOne), .long (i64 m_pairTwo), .long (i64 m_sumUp), .long (i64 m_sumDown)])), (aX8_sumMany, aI X.cI 2000 m_sumMany), (aX8_sumShares, aI X.cI 12000 m_sumShares), (aX8_sumSet, aL X.cJ 2000 m_sumSet), (aX8_taken, aI X.cI 7 m_taken), (aX8_restUp, aL X.cJ 8 m_restUp), (aX8_restDown, aL X.cJ 8 m_restDown)]) [] [0, 1, 2, 3, 4, 5, 6] rfl rfl rfl (by decide) (by decide) (by decide) wM_X8_60 wT_X8_in wZ_X8 wC_X8_in 3 rfl (by decide +kernel) (by rw [hR]; exact ⟨by show 1 + 1 ≤ 3; omega, by show 8 + (6 + 11) + 100 * 1 ≤ 100 * 3; omega⟩) (by rw [hR]; exact ⟨Nat.le_refl _, Nat.le_refl _⟩) (Nat.le_of_ble_eq_true rfl) rfl dX8_table_48 (fun rv w1 hq => ?_)
  obtain ⟨x48, rfl, rfl, rx48, h⟩ := hq
  show Wat X 0 0 51 [(0, .ref hX8), (1, .int (i32 l1)), (2, .int (i32 l2)), (3, .int (i32 l3)), (4, .int (i32 l4))] [.int (i32 x48)] [(hX8, .inr (7, [.ref aX8_ups, .ref aX8_downs, .int (i32 m_many), .ref aX8_row, .int (i32 m_isSpent), .int (i32 m_found), .ref aX8_sumMany, .ref aX8_sumShares, .ref aX8_sumSet, .ref aX8_taken, .ref aX8_restUp, .ref aX8_restDown, .int (i32 m_fewest), .int (i32 m_wishes), .ref aX8_wished, .ref aX8_far, .ref aX8_queue, .int (i32 m_divided), .ref aX8_divisors, .ref aX8_least, .long (i64 m_pairOne), .long (i64 m_pairTwo), .long (i64 m_sumUp), .long (i64 m_sumDown)])), (aX8_sumMany, aI X.cI 2000 m_sumMany), (aX8_sumShares, aI X.cI 12000 m_sumShares), (aX8_sumSet, aL X.cJ 2000 m_sumSet), (aX8_taken, aI X.cI 7 m_taken), (aX8_restUp, aL X.cJ 8 m_restUp), (aX8_restDown, aL X.cJ 8 m_restDown)]
  refine q_if_ne g (5) 56 rx48 (by decide) dX8_table_51 (fun b51 => ?_) (fun b51 => ?_)
  · replace h := h.1 b51
    refine q_iload g 4 4 rfl dX8_table_56 ?_
    refine q_if_le g (20) 78 r_l4 (by decide) dX8_table_58 (fun b58 => ?_) (fun b58 => ?_)
    · replace h := h.1 b58
      refine q_bipush g (-4) (by decide) (by decide) dX8_table_78 ?_
      refine q_istore (lv' := [(5, .int (i32 (-4))), (0, .ref hX8), (1, .int (i32 l1)), (2, .int (i32 l2)), (3, .int (i32 l3)), (4, .int (i32 l4))]) g 5   (by decide) rfl dX8_table_80 ?_
      refine q_iconst g (0) dX8_table_82 ?_
      refine q_istore (lv' := [(6, .int (i32 0)), (5, .int (i32 (-4))), (0, .ref hX8), (1, .int (i32 l1)), (2, .int (i32 l2)), (3, .int (i32 l3)), (4, .int (i32 l4))]) g 6   (by decide) rfl dX8_table_83 ?_
      refine q_iconst g (1) dX8_table_85 ?_
      refine q_istore (lv' := [(7, .int (i32 1)), (6, .int (i32 0)), (5, .int (i32 (-4))), (0, .ref hX8), (1, .int (i32 l1)), (2, .int (i32 l2)), (3, .int (i32 l3)), (4, .int (i32 l4))]) g 7   (by decide) rfl dX8_table_86 ?_
      refine q_lv (lv' := [(0, .ref hX8), (1, .int (i32 l1)), (2, .int (i32 l2)), (3, .int (i32 l3)), (5, .int (i32 (-4))), (6, .int (i32 0)), (7, .int (i32 1))]) [3, 4, 5, 6, 2, 1, 0] rfl ?_
      obtain ⟨n0, h⟩ := h
      exact s_X8_table_88 g hR hX8 aX8_ups aX8_downs m_many aX8_row m_isSpent aX8_sumMany aX8_sumShares aX8_sumSet aX8_taken aX8_restUp aX8_restDown m_wishes aX8_wished aX8_far aX8_queue m_divided aX8_divisors aX8_least m_pairOne m_pairTwo m_sumUp m_sumDown Q hF n0 m_found m_sumMany m_sumShares m_sumSet m_taken m_restUp m_restDown m_fewest l1 l2 l3 (-4) 0 1 r_m_found r_m_sumMany r_m_sumShares r_m_sumSet r_m_taken r_m_restUp r_m_restDown r_m_fewest r_l1 r_l2 r_l3 (r32_lit _ (by decide)) (r32_lit _ (by decide)) (r32_lit _ (by decide)) h
    replace h := h.2 b58
    refine q_aload_n g 0 0 rfl dX8_table_61 ?_
    refine q_iload g 4 4 rfl dX8_table_62 ?_
    refine q_i2l g r_l4 dX8_table_64 ?_
    refine q_iload_n g 1 1 rfl dX8_table_65 ?_
    refine q_i2l g r_l1 dX8_table_66 ?_
    refine q_iload_n g 2 2 rfl dX8_table_67 ?_
    refine q_iload_n g 3 3 rfl dX8_table_68 ?_
    refine q_iconst g (0) dX8_table_69 ?_
    refine q_callV (lev := 2) (mc := 0) (ms := 0) g 151 (c_X8_findSums X.l X.D X.cI X.cJ X.zt hX8 aX8_ups aX8_downs m_many aX8_row m_isSpent m_found aX8_sumMany aX8_sumShares aX8_sumSet aX8_taken aX8_restUp aX8_restDown m_fewest m_wishes aX8_wished aX8_far aX8_queue m_divided aX8_divisors aX8_least m_pairOne m_pairTwo m_sumUp m_sumDown m_sumMany m_sumShares m_sumSet m_taken m_restUp m_restDown l4 l1 l2 l3 0 _ r_m_found r_m_sumMany r_m_sumShares r_m_sumSet r_m_taken r_m_restUp r_m_restDown r_m_fewest (r32_64 r_l4) (r32_64 r_l1) r_l2 r_l3 (r32_lit _ (by decide)) h) (wr := []) [0, 1, 2, 3, 4, 5, 6] [] rfl rfl rfl (by decide) (by decide) (by decide) (ci := 7) rfl rfl rfl wM_X8_151 wI_X8_findSums wS_X8_findSums wZ_X8 wC_X8_findSums 5 rfl (by decide +kernel) (by rw [hR]; exact ⟨by show 2 + 1 ≤ 3; omega, by show 8 + (23 + 11) + 100 * 2 ≤ 100 * 3; omega⟩) (by rw [hR]; exact ⟨Nat.le_refl _, Nat.le_refl _⟩) (Nat.le_of_ble_eq_true rfl) rfl dX8_table_70 (fun rv w1 hq => ?_)
    obtain ⟨m_found_70, m_sumMany_70, m_sumShares_70, m_sumSet_70, m_taken_70, m_restUp_70, m_restDown_70, m_fewest_70, rfl, rfl, rm_found_70, rm_sumMany_70, rm_sumShares_70, rm_sumSet_70, rm_taken_70, rm_restUp_70, rm_restDown_70, rm_fewest_70, h⟩ := hq
    show Wat X 0 0 73 [(0, .ref hX8), (1, .int (i32 l1)), (2, .int (i32 l2)), (3, .int (i32 l3)), (4, .int (i32 l4))] [] [(hX8, .inr (7, [.ref aX8_ups, .ref aX8_downs, .int (i32 m_many), .ref aX8_row, .int (i32 m_isSpent), .int (i32 m_found_70), .ref aX8_sumMany, .ref aX8_sumShares, .ref aX8_sumSet, .ref aX8_taken, .ref aX8_restUp, .ref aX8_restDown, .int (i32 m_fewest_70), .int (i32 m_wishes), .ref aX8_wished, .ref aX8_far, .ref aX8_queue, .int (i32 m_divided), .ref aX8_divisors, .ref aX8_least, .long (i64 m_pairOne), .long (i64 m_pairTwo), .long (i64 m_sumUp), .long (i64 m_sumDown)])), (aX8_sumMany, aI X.cI 2000 m_sumMany_70), (aX8_sumShares, aI X.cI 12000 m_sumShares_70), (aX8_sumSet, aL X.cJ 2000 m_sumSet_70), (aX8_taken, aI X.cI 7 m_taken_70), (aX8_restUp, aL X.cJ 8 m_restUp_70), (aX8_restDown, aL X.cJ 8 m_restDown_70)]
    refine q_aload_n g 0 0 rfl dX8_table_73 ?_
    refine q_get (C := RX8) (T := TX8) (N := 24) g 137 inX8 0 12 rfl rfl (by decide) wF_X8_137 rfl dX8_table_74 ?_
    exact q_iret g hF ⟨m_fewest_70, m_found_70, m_sumMany_70, m_sumShares_70, m_sumSet_70, m_taken_70, m_restUp_70, m_restDown_70, m_fewest_70, rfl, rfl, rm_fewest_70, rm_found_70, rm_sumMany_70, rm_sumShares_70, rm_sumSet_70, rm_taken_70, rm_restUp_70, rm_restDown_70, rm_fewest_70, h⟩ dX8_table_77
  replace h := h.2 b51
  refine q_lv (lv' := []) [] rfl ?_
  exact s_X8_table_54 g hR hX8 aX8_ups aX8_downs m_many aX8_row m_isSpent aX8_sumMany aX8_sumShares aX8_sumSet aX8_taken aX8_restUp aX8_restDown m_wishes aX8_wished aX8_far aX8_queue m_divided aX8_divisors aX8_least m_pairOne m_pairTwo m_sumUp m_sumDown Q hF m_found m_sumMany m_sumShares m_sumSet m_taken m_restUp m_restDown m_fewest r_m_found r_m_sumMany r_m_sumShares r_m_sumSet r_m_taken r_m_restUp r_m_restDown r_m_fewest h
theorem dX8_threes_0 : decode cX8_threes 0 = .ok (.iload_n 1, 1) := by decide +kernel
theorem dX8_threes_1 : decode cX8_threes 1 = .ok (.invokestatic 68, 3) := by decide +kernel
theorem dX8_threes_4 : decode cX8_threes 4 = .ok (.ifCond .ne 5, 3) := by decide +kernel
theorem dX8_threes_7 : decode cX8_threes 7 = .ok (.iconst (-1), 1) := by decide +kernel
theorem dX8_threes_8 : decode cX8_threes 8 = .ok (.ireturn, 1) := by decide +kernel
theorem dX8_threes_9 : decode cX8_threes 9 = .ok (.aload_n 0, 1) := by decide +kernel
theorem dX8_threes_10 : decode cX8_threes 10 = .ok (.iload_n 1, 1) := by decide +kernel
theorem dX8_threes_11 : decode cX8_threes 11 = .ok (.sipush 300, 3) := by decide +kernel
theorem dX8_threes_14 : decode cX8_threes 14 = .ok (.invokevirtual 205, 3) := by decide +kernel
theorem dX8_threes_17 : decode cX8_threes 17 = .ok (.ifCond .ne 6, 3) := by decide +kernel
theorem dX8_threes_20 : decode cX8_threes 20 = .ok (.bipush (-2), 2) := by decide +kernel
theorem dX8_threes_22 : decode cX8_threes 22 = .ok (.ireturn, 1) := by decide +kernel
theorem dX8_threes_23 : decode cX8_threes 23 = .ok (.aload_n 0, 1) := by decide +kernel
theorem dX8_threes_24 : decode cX8_threes 24 = .ok (.getfield 7, 3) := by decide +kernel
theorem dX8_threes_27 : decode cX8_threes 27 = .ok (.iload_n 1, 1) := by decide +kernel
theorem dX8_threes_28 : decode cX8_threes 28 = .ok (.iaload, 1) := by decide +kernel
theorem dX8_threes_29 : decode cX8_threes 29 = .ok (.i2l, 1) := by decide +kernel
theorem dX8_threes_30 : decode cX8_threes 30 = .ok (.lstore_n 2, 1) := by decide +kernel
theorem dX8_threes_31 : decode cX8_threes 31 = .ok (.aload_n 0, 1) := by decide +kernel
theorem dX8_threes_32 : decode cX8_threes 32 = .ok (.getfield 13, 3) := by decide +kernel
theorem dX8_threes_35 : decode cX8_threes 35 = .ok (.iload_n 1, 1) := by decide +kernel
theorem dX8_threes_36 : decode cX8_threes 36 = .ok (.iaload, 1) := by decide +kernel
theorem dX8_threes_37 : decode cX8_threes 37 = .ok (.i2l, 1) := by decide +kernel
theorem dX8_threes_38 : decode cX8_threes 38 = .ok (.lstore 4, 2) := by decide +kernel
theorem dX8_threes_40 : decode cX8_threes 40 = .ok (.iconst 0, 1) := by decide +kernel
theorem dX8_threes_41 : decode cX8_threes 41 = .ok (.istore 6, 2) := by decide +kernel
theorem dX8_threes_43 : decode cX8_threes 43 = .ok (.lload 4, 2) := by decide +kernel
theorem dX8_threes_45 : decode cX8_threes 45 = .ok (.lload_n 2, 1) := by decide +kernel
theorem dX8_threes_46 : decode cX8_threes 46 = .ok (.ldiv, 1) := by decide +kernel
theorem dX8_threes_47 : decode cX8_threes 47 = .ok (.lconst 1, 1) := by decide +kernel
theorem dX8_threes_48 : decode cX8_threes 48 = .ok (.ladd, 1) := by decide +kernel
theorem dX8_threes_49 : decode cX8_threes 49 = .ok (.lstore 7, 2) := by decide +kernel
theorem dX8_threes_51 : decode cX8_threes 51 = .ok (.lload_n 2, 1) := by decide +kernel
theorem dX8_threes_52 : decode cX8_threes 52 = .ok (.lload 7, 2) := by decide +kernel
theorem dX8_threes_54 : decode cX8_threes 54 = .ok (.lmul, 1) := by decide +kernel
theorem dX8_threes_55 : decode cX8_threes 55 = .ok (.ldc2_w 78, 3) := by decide +kernel
theorem dX8_threes_58 : decode cX8_threes 58 = .ok (.lload 4, 2) := by decide +kernel
theorem dX8_threes_60 : decode cX8_threes 60 = .ok (.lmul, 1) := by decide +kernel
theorem dX8_threes_61 : decode cX8_threes 61 = .ok (.lcmp, 1) := by decide +kernel
theorem dX8_threes_62 : decode cX8_threes 62 = .ok (.ifCond .ge 132, 3) := by decide +kernel
theorem dX8_threes_65 : decode cX8_threes 65 = .ok (.lload_n 2, 1) := by decide +kernel
theorem dX8_threes_66 : decode cX8_threes 66 = .ok (.lload 7, 2) := by decide +kernel
theorem dX8_threes_68 : decode cX8_threes 68 = .ok (.lmul, 1) := by decide +kernel
theorem dX8_threes_69 : decode cX8_threes 69 = .ok (.lload 4, 2) := by decide +kernel
theorem dX8_threes_71 : decode cX8_threes 71 = .ok (.lsub, 1) := by decide +kernel
theorem dX8_threes_72 : decode cX8_threes 72 = .ok (.lstore 9, 2) := by decide +kernel
theorem dX8_threes_74 : decode cX8_threes 74 = .ok (.lload 4, 2) := by decide +kernel
theorem dX8_threes_76 : decode cX8_threes 76 = .ok (.lload 7, 2) := by decide +kernel
theorem dX8_threes_78 : decode cX8_threes 78 = .ok (.lmul, 1) := by decide +kernel
theorem dX8_threes_79 : decode cX8_threes 79 = .ok (.lstore 11, 2) := by decide +kernel
theorem dX8_threes_81 : decode cX8_threes 81 = .ok (.lload 9, 2) := by decide +kernel
theorem dX8_threes_83 : decode cX8_threes 83 = .ok (.lload 11, 2) := by decide +kernel
theorem dX8_threes_85 : decode cX8_threes 85 = .ok (.invokestatic 64, 3) := by decide +kernel
theorem dX8_threes_88 : decode cX8_threes 88 = .ok (.lstore 13, 2) := by decide +kernel
theorem dX8_threes_90 : decode cX8_threes 90 = .ok (.lload 9, 2) := by decide +kernel
theorem dX8_threes_92 : decode cX8_threes 92 = .ok (.lload 13, 2) := by decide +kernel
theorem dX8_threes_94 : decode cX8_threes 94 = .ok (.ldiv, 1) := by decide +kernel
theorem dX8_threes_95 : decode cX8_threes 95 = .ok (.lstore 9, 2) := by decide +kernel
theorem dX8_threes_97 : decode cX8_threes 97 = .ok (.lload 11, 2) := by decide +kernel
theorem dX8_threes_99 : decode cX8_threes 99 = .ok (.lload 13, 2) := by decide +kernel
theorem dX8_threes_101 : decode cX8_threes 101 = .ok (.ldiv, 1) := by decide +kernel
theorem dX8_threes_102 : decode cX8_threes 102 = .ok (.lstore 11, 2) := by decide +kernel
theorem dX8_threes_104 : decode cX8_threes 104 = .ok (.lload 11, 2) := by decide +kernel
theorem dX8_threes_106 : decode cX8_threes 106 = .ok (.lload 9, 2) := by decide +kernel
theorem dX8_threes_108 : decode cX8_threes 108 = .ok (.ldiv, 1) := by decide +kernel
theorem dX8_threes_109 : decode cX8_threes 109 = .ok (.lconst 1, 1) := by decide +kernel
theorem dX8_threes_110 : decode cX8_threes 110 = .ok (.ladd, 1) := by decide +kernel
theorem dX8_threes_111 : decode cX8_threes 111 = .ok (.lstore 15, 2) := by decide +kernel
theorem dX8_threes_113 : decode cX8_threes 113 = .ok (.lload 15, 2) := by decide +kernel
theorem dX8_threes_115 : decode cX8_threes 115 = .ok (.lload 7, 2) := by decide +kernel
theorem dX8_threes_117 : decode cX8_threes 117 = .ok (.lcmp, 1) := by decide +kernel
theorem dX8_threes_118 : decode cX8_threes 118 = .ok (.ifCond .le 8, 3) := by decide +kernel
theorem dX8_threes_121 : decode cX8_threes 121 = .ok (.lload 15, 2) := by decide +kernel
theorem dX8_threes_123 : decode cX8_threes 123 = .ok (.goto 7, 3) := by decide +kernel
theorem dX8_threes_126 : decode cX8_threes 126 = .ok (.lload 7, 2) := by decide +kernel
theorem dX8_threes_128 : decode cX8_threes 128 = .ok (.lconst 1, 1) := by decide +kernel
theorem dX8_threes_129 : decode cX8_threes 129 = .ok (.ladd, 1) := by decide +kernel
theorem dX8_threes_130 : decode cX8_threes 130 = .ok (.lstore 17, 2) := by decide +kernel
theorem dX8_threes_132 : decode cX8_threes 132 = .ok (.lload 9, 2) := by decide +kernel
theorem dX8_threes_134 : decode cX8_threes 134 = .ok (.lload 17, 2) := by decide +kernel
theorem dX8_threes_136 : decode cX8_threes 136 = .ok (.lmul, 1) := by decide +kernel
theorem dX8_threes_137 : decode cX8_threes 137 = .ok (.ldc2_w 89, 3) := by decide +kernel
theorem dX8_threes_140 : decode cX8_threes 140 = .ok (.lload 11, 2) := by decide +kernel
theorem dX8_threes_142 : decode cX8_threes 142 = .ok (.lmul, 1) := by decide +kernel
theorem dX8_threes_143 : decode cX8_threes 143 = .ok (.lcmp, 1) := by decide +kernel
theorem dX8_threes_144 : decode cX8_threes 144 = .ok (.ifCond .ge 41, 3) := by decide +kernel
theorem dX8_threes_147 : decode cX8_threes 147 = .ok (.iload 6, 2) := by decide +kernel
theorem dX8_threes_149 : decode cX8_threes 149 = .ok (.lload 11, 2) := by decide +kernel
theorem dX8_threes_151 : decode cX8_threes 151 = .ok (.lload 17, 2) := by decide +kernel
theorem dX8_threes_153 : decode cX8_threes 153 = .ok (.lmul, 1) := by decide +kernel
theorem dX8_threes_154 : decode cX8_threes 154 = .ok (.lload 9, 2) := by decide +kernel
theorem dX8_threes_156 : decode cX8_threes 156 = .ok (.lload 17, 2) := by decide +kernel
theorem dX8_threes_158 : decode cX8_threes 158 = .ok (.lmul, 1) := by decide +kernel
theorem dX8_threes_159 : decode cX8_threes 159 = .ok (.lload 11, 2) := by decide +kernel
theorem dX8_threes_161 : decode cX8_threes 161 = .ok (.lsub, 1) := by decide +kernel
theorem dX8_threes_162 : decode cX8_threes 162 = .ok (.lrem, 1) := by decide +kernel
theorem dX8_threes_163 : decode cX8_threes 163 = .ok (.lconst 0, 1) := by decide +kernel
theorem dX8_threes_164 : decode cX8_threes 164 = .ok (.lcmp, 1) := by decide +kernel
theorem dX8_threes_165 : decode cX8_threes 165 = .ok (.ifCond .ne 7, 3) := by decide +kernel
theorem dX8_threes_168 : decode cX8_threes 168 = .ok (.iconst 1, 1) := by decide +kernel
theorem dX8_threes_169 : decode cX8_threes 169 = .ok (.goto 4, 3) := by decide +kernel
theorem dX8_threes_172 : decode cX8_threes 172 = .ok (.iconst 0, 1) := by decide +kernel
theorem dX8_threes_173 : decode cX8_threes 173 = .ok (.iadd, 1) := by decide +kernel
theorem dX8_threes_174 : decode cX8_threes 174 = .ok (.istore 6, 2) := by decide +kernel
theorem dX8_threes_176 : decode cX8_threes 176 = .ok (.lload 17, 2) := by decide +kernel
theorem dX8_threes_178 : decode cX8_threes 178 = .ok (.lconst 1, 1) := by decide +kernel
theorem dX8_threes_179 : decode cX8_threes 179 = .ok (.ladd, 1) := by decide +kernel
theorem dX8_threes_180 : decode cX8_threes 180 = .ok (.lstore 17, 2) := by decide +kernel
theorem dX8_threes_182 : decode cX8_threes 182 = .ok (.goto (-50), 3) := by decide +kernel
theorem dX8_threes_185 : decode cX8_threes 185 = .ok (.lload 7, 2) := by decide +kernel
theorem dX8_threes_187 : decode cX8_threes 187 = .ok (.lconst 1, 1) := by decide +kernel
theorem dX8_threes_188 : decode cX8_threes 188 = .ok (.ladd, 1) := by decide +kernel
theorem dX8_threes_189 : decode cX8_threes 189 = .ok (.lstore 7, 2) := by decide +kernel
theorem dX8_threes_191 : decode cX8_threes 191 = .ok (.goto (-140), 3) := by decide +kernel
theorem dX8_threes_194 : decode cX8_threes 194 = .ok (.iload 6, 2) := by decide +kernel
theorem dX8_threes_196 : decode cX8_threes 196 = .ok (.ireturn, 1) := by decide +kernel
abbrev po_X8_threes (cI cJ : ClassId) (hX8 : Nat) (aX8_ups : Nat) (aX8_downs : Nat) (m_many : Int) (aX8_row : Nat) (m_isSpent : Int) (m_found : Int) (aX8_sumMany : Nat) (aX8_sumShares : Nat) (aX8_sumSet : Nat) (aX8_taken : Nat) (aX8_restUp : Nat) (aX8_restDown : Nat) (m_fewest : Int) (m_wishes : Int) (aX8_wished : Nat) (aX8_far : Nat) (aX8_queue : Nat) (m_divided : Int) (aX8_divisors : Nat) (aX8_least : Nat) (m_pairOne : Int) (m_pairTwo : Int) (m_sumUp : Int) (m_sumDown : Int) (m_ups : Int → Int) (m_downs : Int → Int) (Q : Int → Prop) : Option Value → va_W → Prop := fun rv w1 => ∃ (r0 : Int), rv = some (.int (i32 r0)) ∧ w1 = [(hX8, .inr (7, [.ref aX8_ups, .ref aX8_downs, .int (i32 m_many), .ref aX8_row, .int (i32 m_isSpent), .int (i32 m_found), .ref aX8_sumMany, .ref aX8_sumShares, .ref aX8_sumSet, .ref aX8_taken, .ref aX8_restUp, .ref aX8_restDown, .int (i32 m_fewest), .int (i32 m_wishes), .ref aX8_wished, .ref aX8_far, .ref aX8_queue, .int (i32 m_divided), .ref aX8_divisors, .ref aX8_least, .long (i64 m_pairOne), .long (i64 m_pairTwo), .long (i64 m_sumUp), .long (i64 m_sumDown)])), (aX8_ups, aI cI 8 m_ups), (aX8_downs, aI cI 8 m_downs)] ∧ r32 r0 ∧ Q r0
def wp_X8_threes_173 (Q : Int → Prop) (m_ups : Int → Int) (m_downs : Int → Int) (K_51 : Int → Int → Int → Int → Prop) (K_132 : Int → Int → Int → Int → Int → Int → Int → Prop) (l2 : Int) (l4 : Int) (l7 : Int) (l9 : Int) (l11 : Int) (l17 : Int) (k0 : Int) (k1 : Int) : Prop := (r32 (k0 + k1) ∧ ∀ x174 : Int, x174 = (k0 + k1) → r64 (l17 + 1) ∧ ∀ x180 : Int, x180 = (l17 + 1) → K_132 l2 l4 x174 l7 l9 l11 x180)
set_option maxHeartbeats 4000000 in
set_option maxRecDepth 100000 in
theorem s_X8_threes_173 {X : Cx} (g : Gd X cX8_threes RX8 (some .int) 19) (hR : X.R = rmL 3 0 0) (hX8 : Nat) (aX8_ups : Nat) (aX8_downs : Nat) (m_many : Int) (aX8_row : Nat) (m_isSpent : Int) (m_found : Int) (aX8_sumMany : Nat) (aX8_sumShares : Nat) (aX8_sumSet : Nat) (aX8_taken : Nat) (aX8_restUp : Nat) (aX8_restDown : Nat) (m_fewest : Int) (m_wishes : Int) (aX8_wished : Nat) (aX8_far : Nat) (aX8_queue : Nat) (m_divided : Int) (aX8_divisors : Nat) (aX8_least : Nat) (m_pairOne : Int) (m_pairTwo : Int) (m_sumUp : Int) (m_sumDown : Int) (m_ups : Int → Int) (m_downs : Int → Int) (r_m_ups : rr32 m_ups) (r_m_downs : rr32 m_downs) (Q : Int → Prop) (hF : FQ X 0 0 (po_X8_threes X.cI X.cJ hX8 aX8_ups aX8_downs m_many aX8_row m_isSpent m_found aX8_sumMany aX8_sumShares aX8_sumSet aX8_taken aX8_restUp aX8_restDown m_fewest m_wishes aX8_wished aX8_far aX8_queue m_divided aX8_divisors aX8_least m_pairOne m_pairTwo m_sumUp m_sumDown m_ups m_downs Q)) (K_51 : Int → Int → Int → Int → Prop) (hK_51 : ∀ (l2 : Int) (l4 : Int) (l6 : Int) (l7 : Int), r64 l2 → r64 l4 → r32 l6 → r64 l7 → K_51 l2 l4 l6 l7 → Wat X 0 0 51 [(2, .long (i64 l2)), (4, .long (i64 l4)), (6, .int (i32 l6)), (7, .long (i64 l7))] [] [(hX8, .inr (7, [.ref aX8_ups, .ref aX8_downs, .int (i32 m_many), .ref aX8_row, .int (i32 m_isSpent), .int (i32 m_found), .ref aX8_sumMany, .ref aX8_sumShares, .ref aX8_sumSet, .ref aX8_taken, .ref aX8_restUp, .ref aX8_restDown, .int (i32 m_fewest), .int (i32 m_wishes), .ref aX8_wished, .ref aX8_far, .ref aX8_queue, .int (i32 m_divided), .ref aX8_divisors, .ref aX8_least, .long (i64 m_pairOne), .long (i64 m_pairTwo), .long (i64 m_sumUp), .long (i64 m_sumDown)])), (aX8_ups, aI X.cI 8 m_ups), (aX8_downs, aI X.cI 8 m_downs)]) (K_132 : Int → Int → Int → Int → Int → Int → Int → Prop) (hK_132 : ∀ (l2 : Int) (l4 : Int) (l6 : Int) (l7 : Int) (l9 : Int) (l11 : Int) (l17 : Int), r64 l2 → r64 l4 → r32 l6 → r64 l7 → r64 l9 → r64 l11 → r64 l17 → K_132 l2 l4 l6 l7 l9 l11 l17 → Wat X 0 0 132 [(2, .long (i64 l2)), (4, .long (i64 l4)), (6, .int (i32 l6)), (7, .long (i64 l7)), (9, .long (i64 l9)), (11, .long (i64 l11)), (17, .long (i64 l17))] [] [(hX8, .inr (7, [.ref aX8_ups, .ref aX8_downs, .int (i32 m_many), .ref aX8_row, .int (i32 m_isSpent), .int (i32 m_found), .ref aX8_sumMany, .ref aX8_sumShares, .ref aX8_sumSet, .ref aX8_taken, .ref aX8_restUp, .ref aX8_restDown, .int (i32 m_fewest), .int (i32 m_wishes), .ref aX8_wished, .ref aX8_far, .ref aX8_queue, .int (i32 m_divided), .ref aX8_divisors, .ref aX8_least, .long (i64 m_pairOne), .long (i64 m_pairTwo), .long (i64 m_sumUp), .long (i64 m_sumDown)])), (aX8_ups, aI X.cI 8 m_ups), (aX8_downs, aI X.cI 8 m_downs)]) : ∀ (l2 : Int) (l4 : Int) (l7 : Int) (l9 : Int) (l11 : Int) (l17 : Int) (k0 : Int) (k1 : Int), r64 l2 → r64 l4 → r64 l7 → r64 l9 → r64 l11 → r64 l17 → r32 k0 → r32 k1 → wp_X8_threes_173 Q m_ups m_downs K_51 K_132 l2 l4 l7 l9 l11 l17 k0 k1 → Wat X 0 0 173 [(2, .long (i64 l2)), (4, .long (i64 l4)), (7, .long (i64 l7)), (9, .long (i64 l9)), (11, .long (i64 l11)), (17, .long (i64 l17))] [.int (i32 k1), .int (i32 k0)] [(hX8, .inr (7, [.ref aX8_ups, .ref aX8_downs, .int (i32 m_many), .ref aX8_row, .int (i32 m_isSpent), .int (i32 m_found), .ref aX8_sumMany, .ref aX8_sumShares, .ref aX8_sumSet, .ref aX8_taken, .ref aX8_restUp, .ref aX8_restDown, .int (i32 m_fewest), .int (i32 m_wishes), .ref aX8_wished, .ref aX8_far, .ref aX8_queue, .int (i32 m_divided), .ref aX8_divisors, .ref aX8_least, .long (i64 m_pairOne), .long (i64 m_pairTwo), .long (i64 m_sumUp), .long (i64 m_sumDown)])), (aX8_ups, aI X.cI 8 m_ups), (aX8_downs, aI X.cI 8 m_downs)] := by
  intro l2 l4 l7 l9 l11 l17 k0 k1 r_l2 r_l4 r_l7 r_l9 r_l11 r_l17 r_k0 r_k1 h
  rw [wp_X8_threes_173] at h
  obtain ⟨c173, h⟩ := h
  refine q_iadd g dX8_threes_173 ?_
  refine q_topi c173 (fun x174 ex174 rx174 => ?_)
  replace h := h x174 ex174
  refine q_istore (lv' := [(6, .int (i32 x174)), (2, .long (i64 l2)), (4, .long (i64 l4)), (7, .long (i64 l7)), (9, .long (i64 l9)), (11, .long (i64 l11)), (17, .long (i64 l17))]) g 6   (by decide) rfl dX8_threes_174 ?_
  refine q_lload g 17 6 rfl dX8_threes_176 ?_
  refine q_lconst g 1 1 rfl dX8_threes_178 ?_
  obtain ⟨c179, h⟩ := h
  refine q_ladd g dX8_threes_179 ?_
  refine q_topl c179 (fun x180 ex180 rx180 => ?_)
  replace h := h x180 ex180
  refine q_lstore (lv' := [(17, .long (i64 x180)), (6, .int (i32 x174)), (2, .long (i64 l2)), (4, .long (i64 l4)), (7, .long (i64 l7)), (9, .long (i64 l9)), (11, .long (i64 l11))]) g 17   (by decide) rfl dX8_threes_180 ?_
  refine q_goto g (-50) 132 (by decide) dX8_threes_182 ?_
  refine q_lv (lv' := [(2, .long (i64 l2)), (4, .long (i64 l4)), (6, .int (i32 x174)), (7, .long (i64 l7)), (9, .long (i64 l9)), (11, .long (i64 l11)), (17, .long (i64 x180))]) [2, 3, 1, 4, 5, 6, 0] rfl ?_
  exact hK_132 l2 l4 x174 l7 l9 l11 x180 r_l2 r_l4 rx174 r_l7 r_l9 r_l11 rx180 h
def wp_X8_threes_132 (Q : Int → Prop) (m_ups : Int → Int) (m_downs : Int → Int) (K_51 : Int → Int → Int → Int → Prop) : Nat → Int → Int → Int → Int → Int → Int → Int → Prop
  | 0, _, _, _, _, _, _, _ => False
  | n + 1, l2, l4, l6, l7, l9, l11, l17 => (r64 (l9 * l17) ∧ r64 (2 * l11) ∧ (((2 * l11) ≤ (l9 * l17) → (r64 (l7 + 1) ∧ ∀ x189 : Int, x189 = (l7 + 1) → K_51 l2 l4 l6 x189)) ∧
  (¬ ((2 * l11) ≤ (l9 * l17)) → (r64 (l11 * l17) ∧ r64 (l9 * l17) ∧ r64 ((l9 * l17) - l11) ∧ 0 < ((l9 * l17) - l11) ∧ ((¬ (Int.tmod (l11 * l17) ((l9 * l17) - l11)) = 0 → wp_X8_threes_173 Q m_ups m_downs K_51 (wp_X8_threes_132 Q m_ups m_downs K_51 n) l2 l4 l7 l9 l11 l17 l6 0) ∧
  ((Int.tmod (l11 * l17) ((l9 * l17) - l11)) = 0 → wp_X8_threes_173 Q m_ups m_downs K_51 (wp_X8_threes_132 Q m_ups m_downs K_51 n) l2 l4 l7 l9 l11 l17 l6 1))))))
set_option maxHeartbeats 4000000 in
set_option maxRecDepth 100000 in
theorem s_X8_threes_132 {X : Cx} (g : Gd X cX8_threes RX8 (some .int) 19) (hR : X.R = rmL 3 0 0) (hX8 : Nat) (aX8_ups : Nat) (aX8_downs : Nat) (m_many : Int) (aX8_row : Nat) (m_isSpent : Int) (m_found : Int) (aX8_sumMany : Nat) (aX8_sumShares : Nat) (aX8_sumSet : Nat) (aX8_taken : Nat) (aX8_restUp : Nat) (aX8_restDown : Nat) (m_fewest : Int) (m_wishes : Int) (aX8_wished : Nat) (aX8_far : Nat) (aX8_queue : Nat) (m_divided : Int) (aX8_divisors : Nat) (aX8_least : Nat) (m_pairOne : Int) (m_pairTwo : Int) (m_sumUp : Int) (m_sumDown : Int) (m_ups : Int → Int) (m_downs : Int → Int) (r_m_ups : rr32 m_ups) (r_m_downs : rr32 m_downs) (Q : Int → Prop) (hF : FQ X 0 0 (po_X8_threes X.cI X.cJ hX8 aX8_ups aX8_downs m_many aX8_row m_isSpent m_found aX8_sumMany aX8_sumShares aX8_sumSet aX8_taken aX8_restUp aX8_restDown m_fewest m_wishes aX8_wished aX8_far aX8_queue m_divided aX8_divisors aX8_least m_pairOne m_pairTwo m_sumUp m_sumDown m_ups m_downs Q)) (K_51 : Int → Int → Int → Int → Prop) (hK_51 : ∀ (l2 : Int) (l4 : Int) (l6 : Int) (l7 : Int), r64 l2 → r64 l4 → r32 l6 → r64 l7 → K_51 l2 l4 l6 l7 → Wat X 0 0 51 [(2, .long (i64 l2)), (4, .long (i64 l4)), (6, .int (i32 l6)), (7, .long (i64 l7))] [] [(hX8, .inr (7, [.ref aX8_ups, .ref aX8_downs, .int (i32 m_many), .ref aX8_row, .int (i32 m_isSpent), .int (i32 m_found), .ref aX8_sumMany, .ref aX8_sumShares, .ref aX8_sumSet, .ref aX8_taken, .ref aX8_restUp, .ref aX8_restDown, .int (i32 m_fewest), .int (i32 m_wishes), .ref aX8_wished, .ref aX8_far, .ref aX8_queue, .int (i32 m_divided), .ref aX8_divisors, .ref aX8_least, .long (i64 m_pairOne), .long (i64 m_pairTwo), .long (i64 m_sumUp), .long (i64 m_sumDown)])), (aX8_ups, aI X.cI 8 m_ups), (aX8_downs, aI X.cI 8 m_downs)]) : ∀ (n : Nat) (l2 : Int) (l4 : Int) (l6 : Int) (l7 : Int) (l9 : Int) (l11 : Int) (l17 : Int), r64 l2 → r64 l4 → r32 l6 → r64 l7 → r64 l9 → r64 l11 → r64 l17 → wp_X8_threes_132 Q m_ups m_downs K_51 n l2 l4 l6 l7 l9 l11 l17 → Wat X 0 0 132 [(2, .long (i64 l2)), (4, .long (i64 l4)), (6, .int (i32 l6)), (7, .long (i64 l7)), (9, .long (i64 l9)), (11, .long (i64 l11)), (17, .long (i64 l17))] [] [(hX8, .inr (7, [.ref aX8_ups, .ref aX8_downs, .int (i32 m_many), .ref aX8_row, .int (i32 m_isSpent), .int (i32 m_found), .ref aX8_sumMany, .ref aX8_sumShares, .ref aX8_sumSet, .ref aX8_taken, .ref aX8_restUp, .ref aX8_restDown, .int (i32 m_fewest), .int (i32 m_wishes), .ref aX8_wished, .ref aX8_far, .ref aX8_queue, .int (i32 m_divided), .ref aX8_divisors, .ref aX8_least, .long (i64 m_pairOne), .long (i64 m_pairTwo), .long (i64 m_sumUp), .long (i64 m_sumDown)])), (aX8_ups, aI X.cI 8 m_ups), (aX8_downs, aI X.cI 8 m_downs)] := by
  intro n
  induction n with
  | zero => intro l2 l4 l6 l7 l9 l11 l17 r_l2 r_l4 r_l6 r_l7 r_l9 r_l11 r_l17 h; exact False.elim h
  | succ n ih =>
    intro l2 l4 l6 l7 l9 l11 l17 r_l2 r_l4 r_l6 r_l7 r_l9 r_l11 r_l17 h
    rw [wp_X8_threes_132] at h
    refine q_lload g 9 4 rfl dX8_threes_132 ?_
    refine q_lload g 17 6 rfl dX8_threes_134 ?_
    obtain ⟨c136, h⟩ := h
    refine q_lmul g dX8_threes_136 ?_
    refine q_ldc2 (w := 2) g 89 (2) (by decide +kernel) wL_X8_89 dX8_threes_137 ?_
    refine q_lload g 11 5 rfl dX8_threes_140 ?_
    obtain ⟨c142, h⟩ := h
    refine q_lmul g dX8_threes_142 ?_
    refine q_lcmp_ge g (41) 185 c136 c142 (by decide) dX8_threes_143 dX8_threes_144 (fun b143 => ?_) (fun b143 => ?_)
    · replace h := h.1 b143
      refine q_lload g 7 3 rfl dX8_threes_185 ?_
      refine q_lconst g 1 1 rfl dX8_threes_187 ?_
      obtain ⟨c188, h⟩ := h
      refine q_ladd g dX8_threes_188 ?_
      refine q_topl c188 (fun x189 ex189 rx189 => ?_)
      replace h := h x189 ex189
      refine q_lstore (lv' := [(7, .long (i64 x189)), (2, .long (i64 l2)), (4, .long (i64 l4)), (6, .int (i32 l6)), (9, .long (i64 l9)), (11, .long (i64 l11)), (17, .long (i64 l17))]) g 7   (by decide) rfl dX8_threes_189 ?_
      refine q_goto g (-140) 51 (by decide) dX8_threes_191 ?_
      refine q_lv (lv' := [(2, .long (i64 l2)), (4, .long (i64 l4)), (6, .int (i32 l6)), (7, .long (i64 x189))]) [1, 2, 3, 0] rfl ?_
      exact hK_51 l2 l4 l6 x189 r_l2 r_l4 r_l6 rx189 h
    replace h := h.2 b143
    refine q_iload g 6 2 rfl dX8_threes_147 ?_
    refine q_lload g 11 5 rfl dX8_threes_149 ?_
    refine q_lload g 17 6 rfl dX8_threes_151 ?_
    obtain ⟨c153, h⟩ := h
    refine q_lmul g dX8_threes_153 ?_
    refine q_lload g 9 4 rfl dX8_threes_154 ?_
    refine q_lload g 17 6 rfl dX8_threes_156 ?_
    obtain ⟨c158, h⟩ := h
    refine q_lmul g dX8_threes_158 ?_
    refine q_lload g 11 5 rfl dX8_threes_159 ?_
    obtain ⟨c161, h⟩ := h
    refine q_lsub g dX8_threes_161 ?_
    obtain ⟨c162, h⟩ := h
    refine q_lrem g c153 c161 (ne_of_pos c162) dX8_threes_162 ?_
    refine q_lconst g 0 0 rfl dX8_threes_163 ?_
    refine q_lcmp_ne g (7) 172 (r64_tmod c153 c161 (ne_of_pos c162)) (r64_lit _ (by decide)) (by decide) dX8_threes_164 dX8_threes_165 (fun b164 => ?_) (fun b164 => ?_)
    · replace h := h.1 b164
      refine q_iconst g (0) dX8_threes_172 ?_
      refine q_lv (lv' := [(2, .long (i64 l2)), (4, .long (i64 l4)), (7, .long (i64 l7)), (9, .long (i64 l9)), (11, .long (i64 l11)), (17, .long (i64 l17))]) [0, 1, 3, 4, 5, 6] rfl ?_
      exact s_X8_threes_173 g hR hX8 aX8_ups aX8_downs m_many aX8_row m_isSpent m_found aX8_sumMany aX8_sumShares aX8_sumSet aX8_taken aX8_restUp aX8_restDown m_fewest m_wishes aX8_wished aX8_far aX8_queue m_divided aX8_divisors aX8_least m_pairOne m_pairTwo m_sumUp m_sumDown m_ups m_downs r_m_ups r_m_downs Q hF K_51 hK_51 (wp_X8_threes_132 Q m_ups m_downs K_51 n) (fun v0 v1 v2 v3 v4 v5 v6 w0 w1 w2 w3 w4 w5 w6 hh => ih v0 v1 v2 v3 v4 v5 v6 w0 w1 w2 w3 w4 w5 w6 hh) l2 l4 l7 l9 l11 l17 l6 0 r_l2 r_l4 r_l7 r_l9 r_l11 r_l17 r_l6 (r32_lit _ (by decide)) h
    replace h := h.2 b164
    refine q_iconst g (1) dX8_threes_168 ?_
    refine q_goto g (4) 173 (by decide) dX8_threes_169 ?_
    refine q_lv (lv' := [(2, .long (i64 l2)), (4, .long (i64 l4)), (7, .long (i64 l7)), (9, .long (i64 l9)), (11, .long (i64 l11)), (17, .long (i64 l17))]) [0, 1, 3, 4, 5, 6] rfl ?_
    exact s_X8_threes_173 g hR hX8 aX8_ups aX8_downs m_many aX8_row m_isSpent m_found aX8_sumMany aX8_sumShares aX8_sumSet aX8_taken aX8_restUp aX8_restDown m_fewest m_wishes aX8_wished aX8_far aX8_queue m_divided aX8_divisors aX8_least m_pairOne m_pairTwo m_sumUp m_sumDown m_ups m_downs r_m_ups r_m_downs Q hF K_51 hK_51 (wp_X8_threes_132 Q m_ups m_downs K_51 n) (fun v0 v1 v2 v3 v4 v5 v6 w0 w1 w2 w3 w4 w5 w6 hh => ih v0 v1 v2 v3 v4 v5 v6 w0 w1 w2 w3 w4 w5 w6 hh) l2 l4 l7 l9 l11 l17 l6 1 r_l2 r_l4 r_l7 r_l9 r_l11 r_l17 r_l6 (r32_lit _ (by decide)) h
def wp_X8_threes_130 (Q : Int → Prop) (m_ups : Int → Int) (m_downs : Int → Int) (K_51 : Int → Int → Int → Int → Prop) (l2 : Int) (l4 : Int) (l6 : Int) (l7 : Int) (l9 : Int) (l11 : Int) (k0 : Int) : Prop := (∃ n0 : Nat, wp_X8_threes_132 Q m_ups m_downs K_51 n0 l2 l4 l6 l7 l9 l11 k0)
set_option maxHeartbeats 4000000 in
set_option maxRecDepth 100000 in
theorem s_X8_threes_130 {X : Cx} (g : Gd X cX8_threes RX8 (some .int) 19) (hR : X.R = rmL 3 0 0) (hX8 : Nat) (aX8_ups : Nat) (aX8_downs : Nat) (m_many : Int) (aX8_row : Nat) (m_isSpent : Int) (m_found : Int) (aX8_sumMany : Nat) (aX8_sumShares : Nat) (aX8_sumSet : Nat) (aX8_taken : Nat) (aX8_restUp : Nat) (aX8_restDown : Nat) (m_fewest : Int) (m_wishes : Int) (aX8_wished : Nat) (aX8_far : Nat) (aX8_queue : Nat) (m_divided : Int) (aX8_divisors : Nat) (aX8_least : Nat) (m_pairOne : Int) (m_pairTwo : Int) (m_sumUp : Int) (m_sumDown : Int) (m_ups : Int → Int) (m_downs : Int → Int) (r_m_ups : rr32 m_ups) (r_m_downs : rr32 m_downs) (Q : Int → Prop) (hF : FQ X 0 0 (po_X8_threes X.cI X.cJ hX8 aX8_ups aX8_downs m_many aX8_row m_isSpent m_found aX8_sumMany aX8_sumShares aX8_sumSet aX8_taken aX8_restUp aX8_restDown m_fewest m_wishes aX8_wished aX8_far aX8_queue m_divided aX8_divisors aX8_least m_pairOne m_pairTwo m_sumUp m_sumDown m_ups m_downs Q)) (K_51 : Int → Int → Int → Int → Prop) (hK_51 : ∀ (l2 : Int) (l4 : Int) (l6 : Int) (l7 : Int), r64 l2 → r64 l4 → r32 l6 → r64 l7 → K_51 l2 l4 l6 l7 → Wat X 0 0 51 [(2, .long (i64 l2)), (4, .long (i64 l4)), (6, .int (i32 l6)), (7, .long (i64 l7))] [] [(hX8, .inr (7, [.ref aX8_ups, .ref aX8_downs, .int (i32 m_many), .ref aX8_row, .int (i32 m_isSpent), .int (i32 m_found), .ref aX8_sumMany, .ref aX8_sumShares, .ref aX8_sumSet, .ref aX8_taken, .ref aX8_restUp, .ref aX8_restDown, .int (i32 m_fewest), .int (i32 m_wishes), .ref aX8_wished, .ref aX8_far, .ref aX8_queue, .int (i32 m_divided), .ref aX8_divisors, .ref aX8_least, .long (i64 m_pairOne), .long (i64 m_pairTwo), .long (i64 m_sumUp), .long (i64 m_sumDown)])), (aX8_ups, aI X.cI 8 m_ups), (aX8_downs, aI X.cI 8 m_downs)]) : ∀ (l2 : Int) (l4 : Int) (l6 : Int) (l7 : Int) (l9 : Int) (l11 : Int) (k0 : Int), r64 l2 → r64 l4 → r32 l6 → r64 l7 → r64 l9 → r64 l11 → r64 k0 → wp_X8_threes_130 Q m_ups m_downs K_51 l2 l4 l6 l7 l9 l11 k0 → Wat X 0 0 130 [(2, .long (i64 l2)), (4, .long (i64 l4)), (6, .int (i32 l6)), (7, .long (i64 l7)), (9, .long (i64 l9)), (11, .long (i64 l11))] [.long (i64 k0)] [(hX8, .inr (7, [.ref aX8_ups, .ref aX8_downs, .int (i32 m_many), .ref aX8_row, .int (i32 m_isSpent), .int (i32 m_found), .ref aX8_sumMany, .ref aX8_sumShares, .ref aX8_sumSet, .ref aX8_taken, .ref aX8_restUp, .ref aX8_restDown, .int (i32 m_fewest), .int (i32 m_wishes), .ref aX8_wished, .ref aX8_far, .ref aX8_queue, .int (i32 m_divided), .ref aX8_divisors, .ref aX8_least, .long (i64 m_pairOne), .long (i64 m_pairTwo), .long (i64 m_sumUp), .long (i64 m_sumDown)])), (aX8_ups, aI X.cI 8 m_ups), (aX8_downs, aI X.cI 8 m_downs)] := by
  intro l2 l4 l6 l7 l9 l11 k0 r_l2 r_l4 r_l6 r_l7 r_l9 r_l11 r_k0 h
  rw [wp_X8_threes_130] at h
  refine q_lstore (lv' := [(17, .long (i64 k0)), (2, .long (i64 l2)), (4, .long (i64 l4)), (6, .int (i32 l6)), (7, .long (i64 l7)), (9, .long (i64 l9)), (11, .long (i64 l11))]) g 17   (by decide) rfl dX8_threes_130 ?_
  refine q_lv (lv' := [(2, .long (i64 l2)), (4, .long (i64 l4)), (6, .int (i32 l6)), (7, .long (i64 l7)), (9, .long (i64 l9)), (11, .long (i64 l11)), (17, .long (i64 k0))]) [1, 2, 3, 4, 5, 6, 0] rfl ?_
  obtain ⟨n0, h⟩ := h
  exact s_X8_threes_132 g hR hX8 aX8_ups aX8_downs m_many aX8_row m_isSpent m_found aX8_sumMany aX8_sumShares aX8_sumSet aX8_taken aX8_restUp aX8_restDown m_fewest m_wishes aX8_wished aX8_far aX8_queue m_divided aX8_divisors aX8_least m_pairOne m_pairTwo m_sumUp m_sumDown m_ups m_downs r_m_ups r_m_downs Q hF K_51 hK_51 n0 l2 l4 l6 l7 l9 l11 k0 r_l2 r_l4 r_l6 r_l7 r_l9 r_l11 r_k0 h
def wp_X8_threes_51 (Q : Int → Prop) (m_ups : Int → Int) (m_downs : Int → Int) : Nat → Int → Int → Int → Int → Prop
  | 0, _, _, _, _ => False
  | n + 1, l2, l4, l6, l7 => (r64 (l2 * l7) ∧ r64 (3 * l4) ∧ (((3 * l4) ≤ (l2 * l7) → Q l6) ∧
  (¬ ((3 * l4) ≤ (l2 * l7)) → (r64 (l2 * l7) ∧ r64 ((l2 * l7) - l4) ∧ ∀ x72 : Int, x72 = ((l2 * l7) - l4) → r64 (l4 * l7) ∧ ∀ x79 : Int, x79 = (l4 * l7) → wp_X8_gcd (fun (x85 : Int) => (0 < x85 ∧ ∀ x95 : Int, x95 = (x72.tdiv x85) → 0 < x85 ∧ ∀ x102 : Int, x102 = (x79.tdiv x85) → 0 < x95 ∧ r64 ((x102.tdiv x95) + 1) ∧ ∀ x111 : Int, x111 = ((x102.tdiv x95) + 1) → ((x111 ≤ l7 → (r64 (l7 + 1) ∧ wp_X8_threes_130 Q m_ups m_downs (wp_X8_threes_51 Q m_ups m_downs n) l2 l4 l6 l7 x95 x102 (l7 + 1))) ∧
  (¬ (x111 ≤ l7) → wp_X8_threes_130 Q m_ups m_downs (wp_X8_threes_51 Q m_ups m_downs n) l2 l4 l6 l7 x95 x102 x111)))) x72 x79))))
set_option maxHeartbeats 4000000 in
set_option maxRecDepth 100000 in
theorem s_X8_threes_51 {X : Cx} (g : Gd X cX8_threes RX8 (some .int) 19) (hR : X.R = rmL 3 0 0) (hX8 : Nat) (aX8_ups : Nat) (aX8_downs : Nat) (m_many : Int) (aX8_row : Nat) (m_isSpent : Int) (m_found : Int) (aX8_sumMany : Nat) (aX8_sumShares : Nat) (aX8_sumSet : Nat) (aX8_taken : Nat) (aX8_restUp : Nat) (aX8_restDown : Nat) (m_fewest : Int) (m_wishes : Int) (aX8_wished : Nat) (aX8_far : Nat) (aX8_queue : Nat) (m_divided : Int) (aX8_divisors : Nat) (aX8_least : Nat) (m_pairOne : Int) (m_pairTwo : Int) (m_sumUp : Int) (m_sumDown : Int) (m_ups : Int → Int) (m_downs : Int → Int) (r_m_ups : rr32 m_ups) (r_m_downs : rr32 m_downs) (Q : Int → Prop) (hF : FQ X 0 0 (po_X8_threes X.cI X.cJ hX8 aX8_ups aX8_downs m_many aX8_row m_isSpent m_found aX8_sumMany aX8_sumShares aX8_sumSet aX8_taken aX8_restUp aX8_restDown m_fewest m_wishes aX8_wished aX8_far aX8_queue m_divided aX8_divisors aX8_least m_pairOne m_pairTwo m_sumUp m_sumDown m_ups m_downs Q)) : ∀ (n : Nat) (l2 : Int) (l4 : Int) (l6 : Int) (l7 : Int), r64 l2 → r64 l4 → r32 l6 → r64 l7 → wp_X8_threes_51 Q m_ups m_downs n l2 l4 l6 l7 → Wat X 0 0 51 [(2, .long (i64 l2)), (4, .long (i64 l4)), (6, .int (i32 l6)), (7, .long (i64 l7))] [] [(hX8, .inr (7, [.ref aX8_ups, .ref aX8_downs, .int (i32 m_many), .ref aX8_row, .int (i32 m_isSpent), .int (i32 m_found), .ref aX8_sumMany, .ref aX8_sumShares, .ref aX8_sumSet, .ref aX8_taken, .ref aX8_restUp, .ref aX8_restDown, .int (i32 m_fewest), .int (i32 m_wishes), .ref aX8_wished, .ref aX8_far, .ref aX8_queue, .int (i32 m_divided), .ref aX8_divisors, .ref aX8_least, .long (i64 m_pairOne), .long (i64 m_pairTwo), .long (i64 m_sumUp), .long (i64 m_sumDown)])), (aX8_ups, aI X.cI 8 m_ups), (aX8_downs, aI X.cI 8 m_downs)] := by
  intro n
  induction n with
  | zero => intro l2 l4 l6 l7 r_l2 r_l4 r_l6 r_l7 h; exact False.elim h
  | succ n ih =>
    intro l2 l4 l6 l7 r_l2 r_l4 r_l6 r_l7 h
    rw [wp_X8_threes_51] at h
    refine q_lload_n g 2 0 rfl dX8_threes_51 ?_
    refine q_lload g 7 3 rfl dX8_threes_52 ?_
    obtain ⟨c54, h⟩ := h
    refine q_lmul g dX8_threes_54 ?_
    refine q_ldc2 (w := 3) g 78 (3) (by decide +kernel) wL_X8_78 dX8_threes_55 ?_
    refine q_lload g 4 1 rfl dX8_threes_58 ?_
    obtain ⟨c60, h⟩ := h
    refine q_lmul g dX8_threes_60 ?_
    refine q_lcmp_ge g (132) 194 c54 c60 (by decide) dX8_threes_61 dX8_threes_62 (fun b61 => ?_) (fun b61 => ?_)
    · replace h := h.1 b61
      refine q_iload g 6 2 rfl dX8_threes_194 ?_
      exact q_iret g hF ⟨l6, rfl, rfl, r_l6, h⟩ dX8_threes_196
    replace h := h.2 b61
    refine q_lload_n g 2 0 rfl dX8_threes_65 ?_
    refine q_lload g 7 3 rfl dX8_threes_66 ?_
    obtain ⟨c68, h⟩ := h
    refine q_lmul g dX8_threes_68 ?_
    refine q_lload g 4 1 rfl dX8_threes_69 ?_
    obtain ⟨c71, h⟩ := h
    refine q_lsub g dX8_threes_71 ?_
    refine q_topl c71 (fun x72 ex72 rx72 => ?_)
    replace h := h x72 ex72
    refine q_lstore (lv' := [(9, .long (i64 x72)), (2, .long (i64 l2)), (4, .long (i64 l4)), (6, .int (i32 l6)), (7, .long (i64 l7))]) g 9   (by decide) rfl dX8_threes_72 ?_
    refine q_lload g 4 2 rfl dX8_threes_74 ?_
    refine q_lload g 7 4 rfl dX8_threes_76 ?_
    obtain ⟨c78, h⟩ := h
    refine q_lmul g dX8_threes_78 ?_
    refine q_topl c78 (fun x79 ex79 rx79 => ?_)
    replace h := h x79 ex79
    refine q_lstore (lv' := [(11, .long (i64 x79)), (9, .long (i64 x72)), (2, .long (i64 l2)), (4, .long (i64 l4)), (6, .int (i32 l6)), (7, .long (i64 l7))]) g 11   (by decide) rfl dX8_threes_79 ?_
    refine q_lload g 9 1 rfl dX8_threes_81 ?_
    refine q_lload g 11 0 rfl dX8_threes_83 ?_
    refine q_callS (lev := 1) (mc := 0) (ms := 0) (As := [.long (i64 x72), .long (i64 x79)]) g 64 (c_X8_gcd X.l X.D X.cI X.cJ X.zt x72 x79 _ rx72 rx79 h) (wr := [(hX8, .inr (7, [.ref aX8_ups, .ref aX8_downs, .int (i32 m_many), .ref aX8_row, .int (i32 m_isSpent), .int (i32 m_found), .ref aX8_sumMany, .ref aX8_sumShares, .ref aX8_sumSet, .ref aX8_taken, .ref aX8_restUp, .ref aX8_restDown, .int (i32 m_fewest), .int (i32 m_wishes), .ref aX8_wished, .ref aX8_far, .ref aX8_queue, .int (i32 m_divided), .ref aX8_divisors, .ref aX8_least, .long (i64 m_pairOne), .long (i64 m_pairTwo), .long (i64 m_sumUp), .long (i64 m_sumDown)])), (aX8_ups, aI X.cI 8 m_ups), (aX8_downs, aI X.cI 8 m_downs)]) [] [0, 1, 2] rfl rfl rfl (by decide) (by decide) (by decide) wM_X8_64 wT_X8_gcd wZ_X8 wC_X8_gcd 2 rfl (by decide +kernel) (by rw [hR]; exact ⟨by show 1 + 1 ≤ 3; omega, by show 8 + (10 + 11) + 100 * 1 ≤ 100 * 3; omega⟩) (by rw [hR]; exact ⟨Nat.le_refl _, Nat.le_refl _⟩) (Nat.le_of_ble_eq_true rfl) rfl dX8_threes_85 (fun rv w1 hq => ?_)
    obtain ⟨x85, rfl, rfl, rx85, h⟩ := hq
    show Wat X 0 0 88 [(11, .long (i64 x79)), (9, .long (i64 x72)), (2, .long (i64 l2)), (4, .long (i64 l4)), (6, .int (i32 l6)), (7, .long (i64 l7))] [.long (i64 x85)] [(hX8, .inr (7, [.ref aX8_ups, .ref aX8_downs, .int (i32 m_many), .ref aX8_row, .int (i32 m_isSpent), .int (i32 m_found), .ref aX8_sumMany, .ref aX8_sumShares, .ref aX8_sumSet, .ref aX8_taken, .ref aX8_restUp, .ref aX8_restDown, .int (i32 m_fewest), .int (i32 m_wishes), .ref aX8_wished, .ref aX8_far, .ref aX8_queue, .int (i32 m_divided), .ref aX8_divisors, .ref aX8_least, .long (i64 m_pairOne), .long (i64 m_pairTwo), .long (i64 m_sumUp), .long (i64 m_sumDown)])), (aX8_ups, aI X.cI 8 m_ups), (aX8_downs, aI X.cI 8 m_downs)]
    refine q_lstore (lv' := [(13, .long (i64 x85)), (11, .long (i64 x79)), (9, .long (i64 x72)), (2, .long (i64 l2)), (4, .long (i64 l4)), (6, .int (i32 l6)), (7, .long (i64 l7))]) g 13   (by decide) rfl dX8_threes_88 ?_
    refine q_lload g 9 2 rfl dX8_threes_90 ?_
    refine q_lload g 13 0 rfl dX8_threes_92 ?_
    obtain ⟨c94, h⟩ := h
    refine q_ldiv g rx72 rx85 (ne_of_pos c94) dX8_threes_94 ?_
    refine q_topl (r64_tdiv rx72 c94) (fun x95 ex95 rx95 => ?_)
    replace h := h x95 ex95
    refine q_lstore (lv' := [(9, .long (i64 x95)), (13, .long (i64 x85)), (11, .long (i64 x79)), (2, .long (i64 l2)), (4, .long (i64 l4)), (6, .int (i32 l6)), (7, .long (i64 l7))]) g 9   (by decide) rfl dX8_threes_95 ?_
    refine q_lload g 11 2 rfl dX8_threes_97 ?_
    refine q_lload g 13 1 rfl dX8_threes_99 ?_
    obtain ⟨c101, h⟩ := h
    refine q_ldiv g rx79 rx85 (ne_of_pos c101) dX8_threes_101 ?_
    refine q_topl (r64_tdiv rx79 c101) (fun x102 ex102 rx102 => ?_)
    replace h := h x102 ex102
    refine q_lstore (lv' := [(11, .long (i64 x102)), (9, .long (i64 x95)), (13, .long (i64 x85)), (2, .long (i64 l2)), (4, .long (i64 l4)), (6, .int (i32 l6)), (7, .long (i64 l7))]) g 11   (by decide) rfl dX8_threes_102 ?_
    refine q_lload g 11 0 rfl dX8_threes_104 ?_
    refine q_lload g 9 1 rfl dX8_threes_106 ?_
    obtain ⟨c108, h⟩ := h
    refine q_ldiv g rx102 rx95 (ne_of_pos c108) dX8_threes_108 ?_
    refine q_lconst g 1 1 rfl dX8_threes_109 ?_
    obtain ⟨c110, h⟩ := h
    refine q_ladd g dX8_threes_110 ?_
    refine q_topl c110 (fun x111 ex111 rx111 => ?_)
    replace h := h x111 ex111
    refine q_lstore (lv' := [(15, .long (i64 x111)), (11, .long (i64 x102)), (9, .long (i64 x95)), (13, .long (i64 x85)), (2, .long (i64 l2)), (4, .long (i64 l4)), (6, .int (i32 l6)), (7, .long (i64 l7))]) g 15   (by decide) rfl dX8_threes_111 ?_
    refine q_lload g 15 0 rfl dX8_threes_113 ?_
    refine q_lload g 7 7 rfl dX8_threes_115 ?_
    refine q_lcmp_le g (8) 126 rx111 r_l7 (by decide) dX8_threes_117 dX8_threes_118 (fun b117 => ?_) (fun b117 => ?_)
    · replace h := h.1 b117
      refine q_lload g 7 7 rfl dX8_threes_126 ?_
      refine q_lconst g 1 1 rfl dX8_threes_128 ?_
      obtain ⟨c129, h⟩ := h
      refine q_ladd g dX8_threes_129 ?_
      refine q_lv (lv' := [(2, .long (i64 l2)), (4, .long (i64 l4)), (6, .int (i32 l6)), (7, .long (i64 l7)), (9, .long (i64 x95)), (11, .long (i64 x102))]) [4, 5, 6, 7, 2, 1] rfl ?_
      exact s_X8_threes_130 g hR hX8 aX8_ups aX8_downs m_many aX8_row m_isSpent m_found aX8_sumMany aX8_sumShares aX8_sumSet aX8_taken aX8_restUp aX8_restDown m_fewest m_wishes aX8_wished aX8_far aX8_queue m_divided aX8_divisors aX8_least m_pairOne m_pairTwo m_sumUp m_sumDown m_ups m_downs r_m_ups r_m_downs Q hF (wp_X8_threes_51 Q m_ups m_downs n) (fun v0 v1 v2 v3 w0 w1 w2 w3 hh => ih v0 v1 v2 v3 w0 w1 w2 w3 hh) l2 l4 l6 l7 x95 x102 (l7 + 1) r_l2 r_l4 r_l6 r_l7 rx95 rx102 c129 h
    replace h := h.2 b117
    refine q_lload g 15 0 rfl dX8_threes_121 ?_
    refine q_goto g (7) 130 (by decide) dX8_threes_123 ?_
    refine q_lv (lv' := [(2, .long (i64 l2)), (4, .long (i64 l4)), (6, .int (i32 l6)), (7, .long (i64 l7)), (9, .long (i64 x95)), (11, .long (i64 x102))]) [4, 5, 6, 7, 2, 1] rfl ?_
    exact s_X8_threes_130 g hR hX8 aX8_ups aX8_downs m_many aX8_row m_isSpent m_found aX8_sumMany aX8_sumShares aX8_sumSet aX8_taken aX8_restUp aX8_restDown m_fewest m_wishes aX8_wished aX8_far aX8_queue m_divided aX8_divisors aX8_least m_pairOne m_pairTwo m_sumUp m_sumDown m_ups m_downs r_m_ups r_m_downs Q hF (wp_X8_threes_51 Q m_ups m_downs n) (fun v0 v1 v2 v3 w0 w1 w2 w3 hh => ih v0 v1 v2 v3 w0 w1 w2 w3 hh) l2 l4 l6 l7 x95 x102 x111 r_l2 r_l4 r_l6 r_l7 rx95 rx102 rx111 h
def wp_X8_threes (Q : Int → Prop) (m_ups : Int → Int) (m_downs : Int → Int) (l1 : Int) : Prop := wp_X8_isRegister (fun (x1 : Int) => ((¬ x1 = 0 → wp_X8_isUpTo (fun (x14 : Int) => ((¬ x14 = 0 → (0 ≤ l1 ∧ l1 < 8 ∧ ∀ x30 : Int, x30 = (m_ups l1) → 0 ≤ l1 ∧ l1 < 8 ∧ ∀ x38 : Int, x38 = (m_downs l1) → 0 < x30 ∧ r64 ((x38.tdiv x30) + 1) ∧ ∀ x49 : Int, x49 = ((x38.tdiv x30) + 1) → (∃ n0 : Nat, wp_X8_threes_51 Q m_ups m_downs n0 x30 x38 0 x49))) ∧
  (x14 = 0 → Q (-2)))) m_ups m_downs l1 300) ∧
  (x1 = 0 → Q (-1)))) l1
set_option maxHeartbeats 4000000 in
set_option maxRecDepth 100000 in
theorem c_X8_threes (l : Launch) (D : va_G) (cI cJ : ClassId) (zt : Nat) (hX8 : Nat) (aX8_ups : Nat) (aX8_downs : Nat) (m_many : Int) (aX8_row : Nat) (m_isSpent : Int) (m_found : Int) (aX8_sumMany : Nat) (aX8_sumShares : Nat) (aX8_sumSet : Nat) (aX8_taken : Nat) (aX8_restUp : Nat) (aX8_restDown : Nat) (m_fewest : Int) (m_wishes : Int) (aX8_wished : Nat) (aX8_far : Nat) (aX8_queue : Nat) (m_divided : Int) (aX8_divisors : Nat) (aX8_least : Nat) (m_pairOne : Int) (m_pairTwo : Int) (m_sumUp : Int) (m_sumDown : Int) (m_ups : Int → Int) (m_downs : Int → Int) (l1 : Int) (Q : Int → Prop) (r_m_ups : rr32 m_ups) (r_m_downs : rr32 m_downs) (r_l1 : r32 l1) (h : wp_X8_threes Q m_ups m_downs l1) : Ct l D cI cJ zt yX8_threes cX8_threes 19 (some .int) 3 0 0 [.ref hX8, .int (i32 l1)] [(hX8, .inr (7, [.ref aX8_ups, .ref aX8_downs, .int (i32 m_many), .ref aX8_row, .int (i32 m_isSpent), .int (i32 m_found), .ref aX8_sumMany, .ref aX8_sumShares, .ref aX8_sumSet, .ref aX8_taken, .ref aX8_restUp, .ref aX8_restDown, .int (i32 m_fewest), .int (i32 m_wishes), .ref aX8_wished, .ref aX8_far, .ref aX8_queue, .int (i32 m_divided), .ref aX8_divisors, .ref aX8_least, .long (i64 m_pairOne), .long (i64 m_pairTwo), .long (i64 m_sumUp), .long (i64 m_sumDown)])), (aX8_ups, aI cI 8 m_ups), (aX8_downs, aI cI 8 m_downs)] (po_X8_threes cI cJ hX8 aX8_ups aX8_downs m_many aX8_row m_isSpent m_found aX8_sumMany aX8_sumShares aX8_sumSet aX8_taken aX8_restUp aX8_restDown m_fewest m_wishes aX8_wished aX8_far aX8_queue m_divided aX8_divisors aX8_least m_pairOne m_pairTwo m_sumUp m_sumDown m_ups m_downs Q) := by
  refine ct_of (by decide +kernel) (Nat.le_of_ble_eq_true rfl) (fun X hl hDD hcI hcJ hzt hR hF hnm g => ?_)
  subst hl; subst hDD; subst hcI; subst hcJ; subst hzt
  show Wat X 0 0 0 [(0, .ref hX8), (1, .int (i32 l1))] [] [(hX8, .inr (7, [.ref aX8_ups, .ref aX8_downs, .int (i32 m_many), .ref aX8_row, .int (i32 m_isSpent), .int (i32 m_found), .ref aX8_sumMany, .ref aX8_sumShares, .ref aX8_sumSet, .ref aX8_taken, .ref aX8_restUp, .ref aX8_restDown, .int (i32 m_fewest), .int (i32 m_wishes), .ref aX8_wished, .ref aX8_far, .ref aX8_queue, .int (i32 m_divided), .ref aX8_divisors, .ref aX8_least, .long (i64 m_pairOne), .long (i64 m_pairTwo), .long (i64 m_sumUp), .long (i64 m_sumDown)])), (aX8_ups, aI X.cI 8 m_ups), (aX8_downs, aI X.cI 8 m_downs)]
  replace g : Gd X cX8_threes RX8 (some .int) 19 := g
  rw [wp_X8_threes] at h
  refine q_iload_n g 1 1 rfl dX8_threes_0 ?_
  refine q_callS (lev := 2) (mc := 0) (ms := 0) (As := [.int (i32 l1)]) g 68 (c_X8_isRegister X.l X.D X.cI X.cJ X.zt l1 _ r_l1 h) (wr := [(hX8, .inr (7, [.ref aX8_ups, .ref aX8_downs, .int (i32 m_many), .ref aX8_row, .int (i32 m_isSpent), .int (i32 m_found), .ref aX8_sumMany, .ref aX8_sumShares, .ref aX8_sumSet, .ref aX8_taken, .ref aX8_restUp, .ref aX8_restDown, .int (i32 m_fewest), .int (i32 m_wishes), .ref aX8_wished, .ref aX8_far, .ref aX8_queue, .int (i32 m_divided), .ref aX8_divisors, .ref aX8_least, .long (i64 m_pairOne), .long (i64 m_pairTwo), .long (i64 m_sumUp), .long (i64 m_sumDown)])), (aX8_ups, aI X.cI 8 m_ups), (aX8_downs, aI X.cI 8 m_downs)]) [] [0, 1, 2] rfl rfl rfl (by decide) (by decide) (by decide) wM_X8_68 wT_X8_isRegister wZ_X8 wC_X8_isRegister 1 rfl (by decide +kernel) (by rw [hR]; exact ⟨by show 2 + 1 ≤ 3; omega, by show 8 + (1 + 11) + 100 * 2 ≤ 100 * 3; omega⟩) (by rw [hR]; exact ⟨Nat.le_refl _, Nat.le_refl _⟩) (Nat.le_of_ble_eq_true rfl) rfl dX8_threes_1 (fun rv w1 hq => ?_)
  obtain ⟨x1, rfl, rfl, rx1, h⟩ := hq
  show Wat X 0 0 4 [(0, .ref hX8), (1, .int (i32 l1))] [.int (i32 x1)] [(hX8, .inr (7, [.ref aX8_ups, .ref aX8_downs, .int (i32 m_many), .ref aX8_row, .int (i32 m_isSpent), .int (i32 m_found), .ref aX8_sumMany, .ref aX8_sumShares, .ref aX8_sumSet, .ref aX8_taken, .ref aX8_restUp, .ref aX8_restDown, .int (i32 m_fewest), .int (i32 m_wishes), .ref aX8_wished, .ref aX8_far, .ref aX8_queue, .int (i32 m_divided), .ref aX8_divisors, .ref aX8_least, .long (i64 m_pairOne), .long (i64 m_pairTwo), .long (i64 m_sumUp), .long (i64 m_sumDown)])), (aX8_ups, aI X.cI 8 m_ups), (aX8_downs, aI X.cI 8 m_downs)]
  refine q_if_ne g (5) 9 rx1 (by decide) dX8_threes_4 (fun b4 => ?_) (fun b4 => ?_)
  · replace h := h.1 b4
    refine q_aload_n g 0 0 rfl dX8_threes_9 ?_
    refine q_iload_n g 1 1 rfl dX8_threes_10 ?_
    refine q_sipush g (300) (by decide) (by decide) dX8_threes_11 ?_
    refine q_callV (lev := 2) (mc := 0) (ms := 0) g 205 (c_X8_isUpTo X.l X.D X.cI X.cJ X.zt hX8 aX8_ups aX8_downs m_many aX8_row m_isSpent m_found aX8_sumMany aX8_sumShares aX8_sumSet aX8_taken aX8_restUp aX8_restDown m_fewest m_wishes aX8_wished aX8_far aX8_queue m_divided aX8_divisors aX8_least m_pairOne m_pairTwo m_sumUp m_sumDown m_ups m_downs l1 300 _ r_m_ups r_m_downs r_l1 (r32_lit _ (by decide)) h) (wr := []) [0, 1, 2] [] rfl rfl rfl (by decide) (by decide) (by decide) (ci := 7) rfl rfl rfl wM_X8_205 wI_X8_isUpTo wS_X8_isUpTo wZ_X8 wC_X8_isUpTo 2 rfl (by decide +kernel) (by rw [hR]; exact ⟨by show 2 + 1 ≤ 3; omega, by show 8 + (3 + 11) + 100 * 2 ≤ 100 * 3; omega⟩) (by rw [hR]; exact ⟨Nat.le_refl _, Nat.le_refl _⟩) (Nat.le_of_ble_eq_true rfl) rfl dX8_threes_14 (fun rv w1 hq => ?_)
    obtain ⟨x14, rfl, rfl, rx14, h⟩ := hq
    show Wat X 0 0 17 [(0, .ref hX8), (1, .int (i32 l1))] [.int (i32 x14)] [(hX8, .inr (7, [.ref aX8_ups, .ref aX8_downs, .int (i32 m_many), .ref aX8_row, .int (i32 m_isSpent), .int (i32 m_found), .ref aX8_sumMany, .ref aX8_sumShares, .ref aX8_sumSet, .ref aX8_taken, .ref aX8_restUp, .ref aX8_restDown, .int (i32 m_fewest), .int (i32 m_wishes), .ref aX8_wished, .ref aX8_far, .ref aX8_queue, .int (i32 m_divided), .ref aX8_divisors, .ref aX8_least, .long (i64 m_pairOne), .long (i64 m_pairTwo), .long (i64 m_sumUp), .long (i64 m_sumDown)])), (aX8_ups, aI X.cI 8 m_ups), (aX8_downs, aI X.cI 8 m_downs)]
    refine q_if_ne g (6) 23 rx14 (by decide) dX8_threes_17 (fun b17 => ?_) (fun b17 => ?_)
    · replace h := h.1 b17
      refine q_aload_n g 0 0 rfl dX8_threes_23 ?_
      refine q_get (C := RX8) (T := TX8) (N := 24) g 7 inX8 0 0 rfl rfl (by decide) wF_X8_7 rfl dX8_threes_24 ?_
      refine q_iload_n g 1 1 rfl dX8_threes_27 ?_
      obtain ⟨c28, h⟩ := h
      obtain ⟨e28, h⟩ := h
      refine q_iald g 1 rfl c28 e28 (by decide) dX8_threes_28 ?_
      refine q_i2l g (r_m_ups _) dX8_threes_29 ?_
      refine q_topl (r32_64 (r_m_ups _)) (fun x30 ex30 rx30 => ?_)
      replace h := h x30 ex30
      refine q_lstore_n (lv' := [(2, .long (i64 x30)), (0, .ref hX8), (1, .int (i32 l1))]) g 2 2 rfl (by decide) rfl dX8_threes_30 ?_
      refine q_aload_n g 0 1 rfl dX8_threes_31 ?_
      refine q_get (C := RX8) (T := TX8) (N := 24) g 13 inX8 0 1 rfl rfl (by decide) wF_X8_13 rfl dX8_threes_32 ?_
      refine q_iload_n g 1 2 rfl dX8_threes_35 ?_
      obtain ⟨c36, h⟩ := h
      obtain ⟨e36, h⟩ := h
      refine q_iald g 2 rfl c36 e36 (by decide) dX8_threes_36 ?_
      refine q_i2l g (r_m_downs _) dX8_threes_37 ?_
      refine q_topl (r32_64 (r_m_downs _)) (fun x38 ex38 rx38 => ?_)
      replace h := h x38 ex38
      refine q_lstore (lv' := [(4, .long (i64 x38)), (2, .long (i64 x30)), (0, .ref hX8), (1, .int (i32 l1))]) g 4   (by decide) rfl dX8_threes_38 ?_
      refine q_iconst g (0) dX8_threes_40 ?_
      refine q_istore (lv' := [(6, .int (i32 0)), (4, .long (i64 x38)), (2, .long (i64 x30)), (0, .ref hX8), (1, .int (i32 l1))]) g 6   (by decide) rfl dX8_threes_41 ?_
      refine q_lload g 4 1 rfl dX8_threes_43 ?_
      refine q_lload_n g 2 2 rfl dX8_threes_45 ?_
      obtain ⟨c46, h⟩ := h
      refine q_ldiv g rx38 rx30 (ne_of_pos c46) dX8_threes_46 ?_
      refine q_lconst g 1 1 rfl dX8_threes_47 ?_
      obtain ⟨c48, h⟩ := h
      refine q_ladd g dX8_threes_48 ?_
      refine q_topl c48 (fun x49 ex49 rx49 => ?_)
      replace h := h x49 ex49
      refine q_lstore (lv' := [(7, .long (i64 x49)), (6, .int (i32 0)), (4, .long (i64 x38)), (2, .long (i64 x30)), (0, .ref hX8), (1, .int (i32 l1))]) g 7   (by decide) rfl dX8_threes_49 ?_
      refine q_lv (lv' := [(2, .long (i64 x30)), (4, .long (i64 x38)), (6, .int (i32 0)), (7, .long (i64 x49))]) [3, 2, 1, 0] rfl ?_
      obtain ⟨n0, h⟩ := h
      exact s_X8_threes_51 g hR hX8 aX8_ups aX8_downs m_many aX8_row m_isSpent m_found aX8_sumMany aX8_sumShares aX8_sumSet aX8_taken aX8_restUp aX8_restDown m_fewest m_wishes aX8_wished aX8_far aX8_queue m_divided aX8_divisors aX8_least m_pairOne m_pairTwo m_sumUp m_sumDown m_ups m_downs r_m_ups r_m_downs Q hF n0 x30 x38 0 x49 rx30 rx38 (r32_lit _ (by decide)) rx49 h
    replace h := h.2 b17
    refine q_bipush g (-2) (by decide) (by decide) dX8_threes_20 ?_
    exact q_iret g hF ⟨(-2), rfl, rfl, (r32_lit _ (by decide)), h⟩ dX8_threes_22
  replace h := h.2 b4
  refine q_iconst g (-1) dX8_threes_7 ?_
  exact q_iret g hF ⟨(-1), rfl, rfl, (r32_lit _ (by decide)), h⟩ dX8_threes_8
theorem dX8_told_0 : decode cX8_told 0 = .ok (.iload_n 1, 1) := by decide +kernel
theorem dX8_told_1 : decode cX8_told 1 = .ok (.invokestatic 68, 3) := by decide +kernel
theorem dX8_told_4 : decode cX8_told 4 = .ok (.ifCond .eq 13, 3) := by decide +kernel
theorem dX8_told_7 : decode cX8_told 7 = .ok (.iload_n 2, 1) := by decide +kernel
theorem dX8_told_8 : decode cX8_told 8 = .ok (.i2l, 1) := by decide +kernel
theorem dX8_told_9 : decode cX8_told 9 = .ok (.lconst 0, 1) := by decide +kernel
theorem dX8_told_10 : decode cX8_told 10 = .ok (.lconst 1, 1) := by decide +kernel
theorem dX8_told_11 : decode cX8_told 11 = .ok (.invokestatic 60, 3) := by decide +kernel
theorem dX8_told_14 : decode cX8_told 14 = .ok (.ifCond .ne 5, 3) := by decide +kernel
theorem dX8_told_17 : decode cX8_told 17 = .ok (.iconst (-1), 1) := by decide +kernel
theorem dX8_told_18 : decode cX8_told 18 = .ok (.ireturn, 1) := by decide +kernel
theorem dX8_told_19 : decode cX8_told 19 = .ok (.iload_n 2, 1) := by decide +kernel
theorem dX8_told_20 : decode cX8_told 20 = .ok (.ifCond .ne 12, 3) := by decide +kernel
theorem dX8_told_23 : decode cX8_told 23 = .ok (.aload_n 0, 1) := by decide +kernel
theorem dX8_told_24 : decode cX8_told 24 = .ok (.getfield 7, 3) := by decide +kernel
theorem dX8_told_27 : decode cX8_told 27 = .ok (.iload_n 1, 1) := by decide +kernel
theorem dX8_told_28 : decode cX8_told 28 = .ok (.iaload, 1) := by decide +kernel
theorem dX8_told_29 : decode cX8_told 29 = .ok (.goto 9, 3) := by decide +kernel
theorem dX8_told_32 : decode cX8_told 32 = .ok (.aload_n 0, 1) := by decide +kernel
theorem dX8_told_33 : decode cX8_told 33 = .ok (.getfield 13, 3) := by decide +kernel
theorem dX8_told_36 : decode cX8_told 36 = .ok (.iload_n 1, 1) := by decide +kernel
theorem dX8_told_37 : decode cX8_told 37 = .ok (.iaload, 1) := by decide +kernel
theorem dX8_told_38 : decode cX8_told 38 = .ok (.ireturn, 1) := by decide +kernel
abbrev po_X8_told (cI cJ : ClassId) (hX8 : Nat) (aX8_ups : Nat) (aX8_downs : Nat) (m_many : Int) (aX8_row : Nat) (m_isSpent : Int) (m_found : Int) (aX8_sumMany : Nat) (aX8_sumShares : Nat) (aX8_sumSet : Nat) (aX8_taken : Nat) (aX8_restUp : Nat) (aX8_restDown : Nat) (m_fewest : Int) (m_wishes : Int) (aX8_wished : Nat) (aX8_far : Nat) (aX8_queue : Nat) (m_divided : Int) (aX8_divisors : Nat) (aX8_least : Nat) (m_pairOne : Int) (m_pairTwo : Int) (m_sumUp : Int) (m_sumDown : Int) (m_ups : Int → Int) (m_downs : Int → Int) (Q : Int → Prop) : Option Value → va_W → Prop := fun rv w1 => ∃ (r0 : Int), rv = some (.int (i32 r0)) ∧ w1 = [(hX8, .inr (7, [.ref aX8_ups, .ref aX8_downs, .int (i32 m_many), .ref aX8_row, .int (i32 m_isSpent), .int (i32 m_found), .ref aX8_sumMany, .ref aX8_sumShares, .ref aX8_sumSet, .ref aX8_taken, .ref aX8_restUp, .ref aX8_restDown, .int (i32 m_fewest), .int (i32 m_wishes), .ref aX8_wished, .ref aX8_far, .ref aX8_queue, .int (i32 m_divided), .ref aX8_divisors, .ref aX8_least, .long (i64 m_pairOne), .long (i64 m_pairTwo), .long (i64 m_sumUp), .long (i64 m_sumDown)])), (aX8_ups, aI cI 8 m_ups), (aX8_downs, aI cI 8 m_downs)] ∧ r32 r0 ∧ Q r0
def wp_X8_told_17 (Q : Int → Prop) (m_ups : Int → Int) (m_downs : Int → Int) : Prop := Q (-1)
set_option maxHeartbeats 4000000 in
set_option maxRecDepth 100000 in
theorem s_X8_told_17 {X : Cx} (g : Gd X cX8_told RX8 (some .int) 3) (hR : X.R = rmL 3 0 0) (hX8 : Nat) (aX8_ups : Nat) (aX8_downs : Nat) (m_many : Int) (aX8_row : Nat) (m_isSpent : Int) (m_found : Int) (aX8_sumMany : Nat) (aX8_sumShares : Nat) (aX8_sumSet : Nat) (aX8_taken : Nat) (aX8_restUp : Nat) (aX8_restDown : Nat) (m_fewest : Int) (m_wishes : Int) (aX8_wished : Nat) (aX8_far : Nat) (aX8_queue : Nat) (m_divided : Int) (aX8_divisors : Nat) (aX8_least : Nat) (m_pairOne : Int) (m_pairTwo : Int) (m_sumUp : Int) (m_sumDown : Int) (m_ups : Int → Int) (m_downs : Int → Int) (r_m_ups : rr32 m_ups) (r_m_downs : rr32 m_downs) (Q : Int → Prop) (hF : FQ X 0 0 (po_X8_told X.cI X.cJ hX8 aX8_ups aX8_downs m_many aX8_row m_isSpent m_found aX8_sumMany aX8_sumShares aX8_sumSet aX8_taken aX8_restUp aX8_restDown m_fewest m_wishes aX8_wished aX8_far aX8_queue m_divided aX8_divisors aX8_least m_pairOne m_pairTwo m_sumUp m_sumDown m_ups m_downs Q)) : wp_X8_told_17 Q m_ups m_downs → Wat X 0 0 17 [] [] [(hX8, .inr (7, [.ref aX8_ups, .ref aX8_downs, .int (i32 m_many), .ref aX8_row, .int (i32 m_isSpent), .int (i32 m_found), .ref aX8_sumMany, .ref aX8_sumShares, .ref aX8_sumSet, .ref aX8_taken, .ref aX8_restUp, .ref aX8_restDown, .int (i32 m_fewest), .int (i32 m_wishes), .ref aX8_wished, .ref aX8_far, .ref aX8_queue, .int (i32 m_divided), .ref aX8_divisors, .ref aX8_least, .long (i64 m_pairOne), .long (i64 m_pairTwo), .long (i64 m_sumUp), .long (i64 m_sumDown)])), (aX8_ups, aI X.cI 8 m_ups), (aX8_downs, aI X.cI 8 m_downs)] := by
  intro h
  rw [wp_X8_told_17] at h
  refine q_iconst g (-1) dX8_told_17 ?_
  exact q_iret g hF ⟨(-1), rfl, rfl, (r32_lit _ (by decide)), h⟩ dX8_told_18
def wp_X8_told_38 (Q : Int → Prop) (m_ups : Int → Int) (m_downs : Int → Int) (k0 : Int) : Prop := Q k0
set_option maxHeartbeats 4000000 in
set_option maxRecDepth 100000 in
theorem s_X8_told_38 {X : Cx} (g : Gd X cX8_told RX8 (some .int) 3) (hR : X.R = rmL 3 0 0) (hX8 : Nat) (aX8_ups : Nat) (aX8_downs : Nat) (m_many : Int) (aX8_row : Nat) (m_isSpent : Int) (m_found : Int) (aX8_sumMany : Nat) (aX8_sumShares : Nat) (aX8_sumSet : Nat) (aX8_taken : Nat) (aX8_restUp : Nat) (aX8_restDown : Nat) (m_fewest : Int) (m_wishes : Int) (aX8_wished : Nat) (aX8_far : Nat) (aX8_queue : Nat) (m_divided : Int) (aX8_divisors : Nat) (aX8_least : Nat) (m_pairOne : Int) (m_pairTwo : Int) (m_sumUp : Int) (m_sumDown : Int) (m_ups : Int → Int) (m_downs : Int → Int) (r_m_ups : rr32 m_ups) (r_m_downs : rr32 m_downs) (Q : Int → Prop) (hF : FQ X 0 0 (po_X8_told X.cI X.cJ hX8 aX8_ups aX8_downs m_many aX8_row m_isSpent m_found aX8_sumMany aX8_sumShares aX8_sumSet aX8_taken aX8_restUp aX8_restDown m_fewest m_wishes aX8_wished aX8_far aX8_queue m_divided aX8_divisors aX8_least m_pairOne m_pairTwo m_sumUp m_sumDown m_ups m_downs Q)) : ∀ (k0 : Int), r32 k0 → wp_X8_told_38 Q m_ups m_downs k0 → Wat X 0 0 38 [] [.int (i32 k0)] [(hX8, .inr (7, [.ref aX8_ups, .ref aX8_downs, .int (i32 m_many), .ref aX8_row, .int (i32 m_isSpent), .int (i32 m_found), .ref aX8_sumMany, .ref aX8_sumShares, .ref aX8_sumSet, .ref aX8_taken, .ref aX8_restUp, .ref aX8_restDown, .int (i32 m_fewest), .int (i32 m_wishes), .ref aX8_wished, .ref aX8_far, .ref aX8_queue, .int (i32 m_divided), .ref aX8_divisors, .ref aX8_least, .long (i64 m_pairOne), .long (i64 m_pairTwo), .long (i64 m_sumUp), .long (i64 m_sumDown)])), (aX8_ups, aI X.cI 8 m_ups), (aX8_downs, aI X.cI 8 m_downs)] := by
  intro k0 r_k0 h
  rw [wp_X8_told_38] at h
  exact q_iret g hF ⟨k0, rfl, rfl, r_k0, h⟩ dX8_told_38
def wp_X8_told (Q : Int → Prop) (m_ups : Int → Int) (m_downs : Int → Int) (l1 : Int) (l2 : Int) : Prop := wp_X8_isRegister (fun (x1 : Int) => ((x1 = 0 → wp_X8_told_17 Q m_ups m_downs) ∧
  (¬ (x1 = 0) → wp_X8_in (fun (x11 : Int) => ((¬ x11 = 0 → ((¬ l2 = 0 → (0 ≤ l1 ∧ l1 < 8 ∧ wp_X8_told_38 Q m_ups m_downs (m_downs l1))) ∧
  (l2 = 0 → (0 ≤ l1 ∧ l1 < 8 ∧ wp_X8_told_38 Q m_ups m_downs (m_ups l1))))) ∧
  (x11 = 0 → wp_X8_told_17 Q m_ups m_downs))) l2 0 1))) l1
set_option maxHeartbeats 4000000 in
set_option maxRecDepth 100000 in
theorem c_X8_told (l : Launch) (D : va_G) (cI cJ : ClassId) (zt : Nat) (hX8 : Nat) (aX8_ups : Nat) (aX8_downs : Nat) (m_many : Int) (aX8_row : Nat) (m_isSpent : Int) (m_found : Int) (aX8_sumMany : Nat) (aX8_sumShares : Nat) (aX8_sumSet : Nat) (aX8_taken : Nat) (aX8_restUp : Nat) (aX8_restDown : Nat) (m_fewest : Int) (m_wishes : Int) (aX8_wished : Nat) (aX8_far : Nat) (aX8_queue : Nat) (m_divided : Int) (aX8_divisors : Nat) (aX8_least : Nat) (m_pairOne : Int) (m_pairTwo : Int) (m_sumUp : Int) (m_sumDown : Int) (m_ups : Int → Int) (m_downs : Int → Int) (l1 : Int) (l2 : Int) (Q : Int → Prop) (r_m_ups : rr32 m_ups) (r_m_downs : rr32 m_downs) (r_l1 : r32 l1) (r_l2 : r32 l2) (h : wp_X8_told Q m_ups m_downs l1 l2) : Ct l D cI cJ zt yX8_told cX8_told 3 (some .int) 3 0 0 [.ref hX8, .int (i32 l1), .int (i32 l2)] [(hX8, .inr (7, [.ref aX8_ups, .ref aX8_downs, .int (i32 m_many), .ref aX8_row, .int (i32 m_isSpent), .int (i32 m_found), .ref aX8_sumMany, .ref aX8_sumShares, .ref aX8_sumSet, .ref aX8_taken, .ref aX8_restUp, .ref aX8_restDown, .int (i32 m_fewest), .int (i32 m_wishes), .ref aX8_wished, .ref aX8_far, .ref aX8_queue, .int (i32 m_divided), .ref aX8_divisors, .ref aX8_least, .long (i64 m_pairOne), .long (i64 m_pairTwo), .long (i64 m_sumUp), .long (i64 m_sumDown)])), (aX8_ups, aI cI 8 m_ups), (aX8_downs, aI cI 8 m_downs)] (po_X8_told cI cJ hX8 aX8_ups aX8_downs m_many aX8_row m_isSpent m_found aX8_sumMany aX8_sumShares aX8_sumSet aX8_taken aX8_restUp aX8_restDown m_fewest m_wishes aX8_wished aX8_far aX8_queue m_divided aX8_divisors aX8_least m_pairOne m_pairTwo m_sumUp m_sumDown m_ups m_downs Q) := by
  refine ct_of (by decide +kernel) (Nat.le_of_ble_eq_true rfl) (fun X hl hDD hcI hcJ hzt hR hF hnm g => ?_)
  subst hl; subst hDD; subst hcI; subst hcJ; subst hzt
  show Wat X 0 0 0 [(0, .ref hX8), (1, .int (i32 l1)), (2, .int (i32 l2))] [] [(hX8, .inr (7, [.ref aX8_ups, .ref aX8_downs, .int (i32 m_many), .ref aX8_row, .int (i32 m_isSpent), .int (i32 m_found), .ref aX8_sumMany, .ref aX8_sumShares, .ref aX8_sumSet, .ref aX8_taken, .ref aX8_restUp, .ref aX8_restDown, .int (i32 m_fewest), .int (i32 m_wishes), .ref aX8_wished, .ref aX8_far, .ref aX8_queue, .int (i32 m_divided), .ref aX8_divisors, .ref aX8_least, .long (i64 m_pairOne), .long (i64 m_pairTwo), .long (i64 m_sumUp), .long (i64 m_sumDown)])), (aX8_ups, aI X.cI 8 m_ups), (aX8_downs, aI X.cI 8 m_downs)]
  replace g : Gd X cX8_told RX8 (some .int) 3 := g
  rw [wp_X8_told] at h
  refine q_iload_n g 1 1 rfl dX8_told_0 ?_
  refine q_callS (lev := 2) (mc := 0) (ms := 0) (As := [.int (i32 l1)]) g 68 (c_X8_isRegister X.l X.D X.cI X.cJ X.zt l1 _ r_l1 h) (wr := [(hX8, .inr (7, [.ref aX8_ups, .ref aX8_downs, .int (i32 m_many), .ref aX8_row, .int (i32 m_isSpent), .int (i32 m_found), .ref aX8_sumMany, .ref aX8_sumShares, .ref aX8_sumSet, .ref aX8_taken, .ref aX8_restUp, .ref aX8_restDown, .int (i32 m_fewest), .int (i32 m_wishes), .ref aX8_wished, .ref aX8_far, .ref aX8_queue, .int (i32 m_divided), .ref aX8_divisors, .ref aX8_least, .long (i64 m_pairOne), .long (i64 m_pairTwo), .long (i64 m_sumUp), .long (i64 m_sumDown)])), (aX8_ups, aI X.cI 8 m_ups), (aX8_downs, aI X.cI 8 m_downs)]) [] [0, 1, 2] rfl rfl rfl (by decide) (by decide) (by decide) wM_X8_68 wT_X8_isRegister wZ_X8 wC_X8_isRegister 1 rfl (by decide +kernel) (by rw [hR]; exact ⟨by show 2 + 1 ≤ 3; omega, by show 8 + (1 + 11) + 100 * 2 ≤ 100 * 3; omega⟩) (by rw [hR]; exact ⟨Nat.le_refl _, Nat.le_refl _⟩) (Nat.le_of_ble_eq_true rfl) rfl dX8_told_1 (fun rv w1 hq => ?_)
  obtain ⟨x1, rfl, rfl, rx1, h⟩ := hq
  show Wat X 0 0 4 [(0, .ref hX8), (1, .int (i32 l1)), (2, .int (i32 l2))] [.int (i32 x1)] [(hX8, .inr (7, [.ref aX8_ups, .ref aX8_downs, .int (i32 m_many), .ref aX8_row, .int (i32 m_isSpent), .int (i32 m_found), .ref aX8_sumMany, .ref aX8_sumShares, .ref aX8_sumSet, .ref aX8_taken, .ref aX8_restUp, .ref aX8_restDown, .int (i32 m_fewest), .int (i32 m_wishes), .ref aX8_wished, .ref aX8_far, .ref aX8_queue, .int (i32 m_divided), .ref aX8_divisors, .ref aX8_least, .long (i64 m_pairOne), .long (i64 m_pairTwo), .long (i64 m_sumUp), .long (i64 m_sumDown)])), (aX8_ups, aI X.cI 8 m_ups), (aX8_downs, aI X.cI 8 m_downs)]
  refine q_if_eq g (13) 17 rx1 (by decide) dX8_told_4 (fun b4 => ?_) (fun b4 => ?_)
  · replace h := h.1 b4
    refine q_lv (lv' := []) [] rfl ?_
    exact s_X8_told_17 g hR hX8 aX8_ups aX8_downs m_many aX8_row m_isSpent m_found aX8_sumMany aX8_sumShares aX8_sumSet aX8_taken aX8_restUp aX8_restDown m_fewest m_wishes aX8_wished aX8_far aX8_queue m_divided aX8_divisors aX8_least m_pairOne m_pairTwo m_sumUp m_sumDown m_ups m_downs r_m_ups r_m_downs Q hF h
  replace h := h.2 b4
  refine q_iload_n g 2 2 rfl dX8_told_7 ?_
  refine q_i2l g r_l2 dX8_told_8 ?_
  refine q_lconst g 0 0 rfl dX8_told_9 ?_
  refine q_lconst g 1 1 rfl dX8_told_10 ?_
  refine q_callS (lev := 1) (mc := 0) (ms := 0) (As := [.long (i64 l2), .long (i64 0), .long (i64 1)]) g 60 (c_X8_in X.l X.D X.cI X.cJ X.zt l2 0 1 _ (r32_64 r_l2) (r64_lit _ (by decide)) (r64_lit _ (by decide)) h) (wr := [(hX8, .inr (7, [.ref aX8_ups, .ref aX8_downs, .int (i32 m_many), .ref aX8_row, .int (i32 m_isSpent), .int (i32 m_found), .ref aX8_sumMany, .ref aX8_sumShares, .ref aX8_sumSet, .ref aX8_taken, .ref aX8_restUp, .ref aX8_restDown, .int (i32 m_fewest), .int (i32 m_wishes), .ref aX8_wished, .ref aX8_far, .ref aX8_queue, .int (i32 m_divided), .ref aX8_divisors, .ref aX8_least, .long (i64 m_pairOne), .long (i64 m_pairTwo), .long (i64 m_sumUp), .long (i64 m_sumDown)])), (aX8_ups, aI X.cI 8 m_ups), (aX8_downs, aI X.cI 8 m_downs)]) [] [0, 1, 2] rfl rfl rfl (by decide) (by decide) (by decide) wM_X8_60 wT_X8_in wZ_X8 wC_X8_in 3 rfl (by decide +kernel) (by rw [hR]; exact ⟨by show 1 + 1 ≤ 3; omega, by show 8 + (6 + 11) + 100 * 1 ≤ 100 * 3; omega⟩) (by rw [hR]; exact ⟨Nat.le_refl _, Nat.le_refl _⟩) (Nat.le_of_ble_eq_true rfl) rfl dX8_told_11 (fun rv w1 hq => ?_)
  obtain ⟨x11, rfl, rfl, rx11, h⟩ := hq
  show Wat X 0 0 14 [(0, .ref hX8), (1, .int (i32 l1)), (2, .int (i32 l2))] [.int (i32 x11)] [(hX8, .inr (7, [.ref aX8_ups, .ref aX8_downs, .int (i32 m_many), .ref aX8_row, .int (i32 m_isSpent), .int (i32 m_found), .ref aX8_sumMany, .ref aX8_sumShares, .ref aX8_sumSet, .ref aX8_taken, .ref aX8_restUp, .ref aX8_restDown, .int (i32 m_fewest), .int (i32 m_wishes), .ref aX8_wished, .ref aX8_far, .ref aX8_queue, .int (i32 m_divided), .ref aX8_divisors, .ref aX8_least, .long (i64 m_pairOne), .long (i64 m_pairTwo), .long (i64 m_sumUp), .long (i64 m_sumDown)])), (aX8_ups, aI X.cI 8 m_ups), (aX8_downs, aI X.cI 8 m_downs)]
  refine q_if_ne g (5) 19 rx11 (by decide) dX8_told_14 (fun b14 => ?_) (fun b14 => ?_)
  · replace h := h.1 b14
    refine q_iload_n g 2 2 rfl dX8_told_19 ?_
    refine q_if_ne g (12) 32 r_l2 (by decide) dX8_told_20 (fun b20 => ?_) (fun b20 => ?_)
    · replace h := h.1 b20
      refine q_aload_n g 0 0 rfl dX8_told_32 ?_
      refine q_get (C := RX8) (T := TX8) (N := 24) g 13 inX8 0 1 rfl rfl (by decide) wF_X8_13 rfl dX8_told_33 ?_
      refine q_iload_n g 1 1 rfl dX8_told_36 ?_
      obtain ⟨c37, h⟩ := h
      obtain ⟨e37, h⟩ := h
      refine q_iald g 2 rfl c37 e37 (by decide) dX8_told_37 ?_
      refine q_lv (lv' := []) [] rfl ?_
      exact s_X8_told_38 g hR hX8 aX8_ups aX8_downs m_many aX8_row m_isSpent m_found aX8_sumMany aX8_sumShares aX8_sumSet aX8_taken aX8_restUp aX8_restDown m_fewest m_wishes aX8_wished aX8_far aX8_queue m_divided aX8_divisors aX8_least m_pairOne m_pairTwo m_sumUp m_sumDown m_ups m_downs r_m_ups r_m_downs Q hF (m_downs l1) (r_m_downs _) h
    replace h := h.2 b20
    refine q_aload_n g 0 0 rfl dX8_told_23 ?_
    refine q_get (C := RX8) (T := TX8) (N := 24) g 7 inX8 0 0 rfl rfl (by decide) wF_X8_7 rfl dX8_told_24 ?_
    refine q_iload_n g 1 1 rfl dX8_told_27 ?_
    obtain ⟨c28, h⟩ := h
    obtain ⟨e28, h⟩ := h
    refine q_iald g 1 rfl c28 e28 (by decide) dX8_told_28 ?_
    refine q_goto g (9) 38 (by decide) dX8_told_29 ?_
    refine q_lv (lv' := []) [] rfl ?_
    exact s_X8_told_38 g hR hX8 aX8_ups aX8_downs m_many aX8_row m_isSpent m_found aX8_sumMany aX8_sumShares aX8_sumSet aX8_taken aX8_restUp aX8_restDown m_fewest m_wishes aX8_wished aX8_far aX8_queue m_divided aX8_divisors aX8_least m_pairOne m_pairTwo m_sumUp m_sumDown m_ups m_downs r_m_ups r_m_downs Q hF (m_ups l1) (r_m_ups _) h
  replace h := h.2 b14
  refine q_lv (lv' := []) [] rfl ?_
  exact s_X8_told_17 g hR hX8 aX8_ups aX8_downs m_many aX8_row m_isSpent m_found aX8_sumMany aX8_sumShares aX8_sumSet aX8_taken aX8_restUp aX8_restDown m_fewest m_wishes aX8_wished aX8_far aX8_queue m_divided aX8_divisors aX8_least m_pairOne m_pairTwo m_sumUp m_sumDown m_ups m_downs r_m_ups r_m_downs Q hF h
theorem dX8_wish_0 : decode cX8_wish 0 = .ok (.iload_n 1, 1) := by decide +kernel
theorem dX8_wish_1 : decode cX8_wish 1 = .ok (.i2l, 1) := by decide +kernel
theorem dX8_wish_2 : decode cX8_wish 2 = .ok (.lconst 1, 1) := by decide +kernel
theorem dX8_wish_3 : decode cX8_wish 3 = .ok (.ldc2_w 155, 3) := by decide +kernel
theorem dX8_wish_6 : decode cX8_wish 6 = .ok (.invokestatic 60, 3) := by decide +kernel
theorem dX8_wish_9 : decode cX8_wish 9 = .ok (.ifCond .ne 5, 3) := by decide +kernel
theorem dX8_wish_12 : decode cX8_wish 12 = .ok (.iconst (-1), 1) := by decide +kernel
theorem dX8_wish_13 : decode cX8_wish 13 = .ok (.ireturn, 1) := by decide +kernel
theorem dX8_wish_14 : decode cX8_wish 14 = .ok (.aload_n 0, 1) := by decide +kernel
theorem dX8_wish_15 : decode cX8_wish 15 = .ok (.iload_n 1, 1) := by decide +kernel
theorem dX8_wish_16 : decode cX8_wish 16 = .ok (.putfield 157, 3) := by decide +kernel
theorem dX8_wish_19 : decode cX8_wish 19 = .ok (.iconst 0, 1) := by decide +kernel
theorem dX8_wish_20 : decode cX8_wish 20 = .ok (.istore 4, 2) := by decide +kernel
theorem dX8_wish_22 : decode cX8_wish 22 = .ok (.iload 4, 2) := by decide +kernel
theorem dX8_wish_24 : decode cX8_wish 24 = .ok (.iload_n 1, 1) := by decide +kernel
theorem dX8_wish_25 : decode cX8_wish 25 = .ok (.if_icmp .ge 32, 3) := by decide +kernel
theorem dX8_wish_28 : decode cX8_wish 28 = .ok (.aload_n 0, 1) := by decide +kernel
theorem dX8_wish_29 : decode cX8_wish 29 = .ok (.getfield 42, 3) := by decide +kernel
theorem dX8_wish_32 : decode cX8_wish 32 = .ok (.iload 4, 2) := by decide +kernel
theorem dX8_wish_34 : decode cX8_wish 34 = .ok (.lload_n 2, 1) := by decide +kernel
theorem dX8_wish_35 : decode cX8_wish 35 = .ok (.bipush 8, 2) := by decide +kernel
theorem dX8_wish_37 : decode cX8_wish 37 = .ok (.iload_n 1, 1) := by decide +kernel
theorem dX8_wish_38 : decode cX8_wish 38 = .ok (.iconst 1, 1) := by decide +kernel
theorem dX8_wish_39 : decode cX8_wish 39 = .ok (.isub, 1) := by decide +kernel
theorem dX8_wish_40 : decode cX8_wish 40 = .ok (.iload 4, 2) := by decide +kernel
theorem dX8_wish_42 : decode cX8_wish 42 = .ok (.isub, 1) := by decide +kernel
theorem dX8_wish_43 : decode cX8_wish 43 = .ok (.imul, 1) := by decide +kernel
theorem dX8_wish_44 : decode cX8_wish 44 = .ok (.lshr, 1) := by decide +kernel
theorem dX8_wish_45 : decode cX8_wish 45 = .ok (.ldc2_w 160, 3) := by decide +kernel
theorem dX8_wish_48 : decode cX8_wish 48 = .ok (.land, 1) := by decide +kernel
theorem dX8_wish_49 : decode cX8_wish 49 = .ok (.l2i, 1) := by decide +kernel
theorem dX8_wish_50 : decode cX8_wish 50 = .ok (.iastore, 1) := by decide +kernel
theorem dX8_wish_51 : decode cX8_wish 51 = .ok (.iinc 4 1, 3) := by decide +kernel
theorem dX8_wish_54 : decode cX8_wish 54 = .ok (.goto (-32), 3) := by decide +kernel
theorem dX8_wish_57 : decode cX8_wish 57 = .ok (.iload_n 1, 1) := by decide +kernel
theorem dX8_wish_58 : decode cX8_wish 58 = .ok (.ireturn, 1) := by decide +kernel
abbrev po_X8_wish (cI cJ : ClassId) (hX8 : Nat) (aX8_ups : Nat) (aX8_downs : Nat) (m_many : Int) (aX8_row : Nat) (m_isSpent : Int) (m_found : Int) (aX8_sumMany : Nat) (aX8_sumShares : Nat) (aX8_sumSet : Nat) (aX8_taken : Nat) (aX8_restUp : Nat) (aX8_restDown : Nat) (m_fewest : Int) (aX8_wished : Nat) (aX8_far : Nat) (aX8_queue : Nat) (m_divided : Int) (aX8_divisors : Nat) (aX8_least : Nat) (m_pairOne : Int) (m_pairTwo : Int) (m_sumUp : Int) (m_sumDown : Int) (Q : Int → Int → (Int → Int) → Prop) : Option Value → va_W → Prop := fun rv w1 => ∃ (r0 : Int) (m_wishes : Int) (m_wished : Int → Int), rv = some (.int (i32 r0)) ∧ w1 = [(hX8, .inr (7, [.ref aX8_ups, .ref aX8_downs, .int (i32 m_many), .ref aX8_row, .int (i32 m_isSpent), .int (i32 m_found), .ref aX8_sumMany, .ref aX8_sumShares, .ref aX8_sumSet, .ref aX8_taken, .ref aX8_restUp, .ref aX8_restDown, .int (i32 m_fewest), .int (i32 m_wishes), .ref aX8_wished, .ref aX8_far, .ref aX8_queue, .int (i32 m_divided), .ref aX8_divisors, .ref aX8_least, .long (i64 m_pairOne), .long (i64 m_pairTwo), .long (i64 m_sumUp), .long (i64 m_sumDown)])), (aX8_wished, aI cI 8 m_wished)] ∧ r32 r0 ∧ r32 m_wishes ∧ rr32 m_wished ∧ Q r0 m_wishes m_wished
def wp_X8_wish_22 (Q : Int → Int → (Int → Int) → Prop) : Nat → Int → (Int → Int) → Int → Int → Int → Prop
  | 0, _, _, _, _, _ => False
  | n + 1, m_wishes, m_wished, l1, l2, l4 => ((l1 ≤ l4 → Q l1 m_wishes m_wished) ∧
  (¬ (l1 ≤ l4) → (r32 (l1 - 1) ∧ r32 ((l1 - 1) - l4) ∧ r32 (8 * ((l1 - 1) - l4)) ∧ r32 (land64 (shr64 l2 (8 * ((l1 - 1) - l4))) 255) ∧ ∀ x50 : Int, x50 = (land64 (shr64 l2 (8 * ((l1 - 1) - l4))) 255) → 0 ≤ l4 ∧ l4 < 8 ∧ r32 (l4 + 1) ∧ wp_X8_wish_22 Q n m_wishes (ups m_wished l4 x50) l1 l2 (l4 + 1))))
set_option maxHeartbeats 4000000 in
set_option maxRecDepth 100000 in
theorem s_X8_wish_22 {X : Cx} (g : Gd X cX8_wish RX8 (some .int) 5) (hR : X.R = rmL 2 0 0) (hX8 : Nat) (aX8_ups : Nat) (aX8_downs : Nat) (m_many : Int) (aX8_row : Nat) (m_isSpent : Int) (m_found : Int) (aX8_sumMany : Nat) (aX8_sumShares : Nat) (aX8_sumSet : Nat) (aX8_taken : Nat) (aX8_restUp : Nat) (aX8_restDown : Nat) (m_fewest : Int) (aX8_wished : Nat) (aX8_far : Nat) (aX8_queue : Nat) (m_divided : Int) (aX8_divisors : Nat) (aX8_least : Nat) (m_pairOne : Int) (m_pairTwo : Int) (m_sumUp : Int) (m_sumDown : Int) (Q : Int → Int → (Int → Int) → Prop) (hF : FQ X 0 0 (po_X8_wish X.cI X.cJ hX8 aX8_ups aX8_downs m_many aX8_row m_isSpent m_found aX8_sumMany aX8_sumShares aX8_sumSet aX8_taken aX8_restUp aX8_restDown m_fewest aX8_wished aX8_far aX8_queue m_divided aX8_divisors aX8_least m_pairOne m_pairTwo m_sumUp m_sumDown Q)) : ∀ (n : Nat) (m_wishes : Int) (m_wished : Int → Int) (l1 : Int) (l2 : Int) (l4 : Int), r32 m_wishes → rr32 m_wished → r32 l1 → r64 l2 → r32 l4 → wp_X8_wish_22 Q n m_wishes m_wished l1 l2 l4 → Wat X 0 0 22 [(0, .ref hX8), (1, .int (i32 l1)), (2, .long (i64 l2)), (4, .int (i32 l4))] [] [(hX8, .inr (7, [.ref aX8_ups, .ref aX8_downs, .int (i32 m_many), .ref aX8_row, .int (i32 m_isSpent), .int (i32 m_found), .ref aX8_sumMany, .ref aX8_sumShares, .ref aX8_sumSet, .ref aX8_taken, .ref aX8_restUp, .ref aX8_restDown, .int (i32 m_fewest), .int (i32 m_wishes), .ref aX8_wished, .ref aX8_far, .ref aX8_queue, .int (i32 m_divided), .ref aX8_divisors, .ref aX8_least, .long (i64 m_pairOne), .long (i64 m_pairTwo), .long (i64 m_sumUp), .long (i64 m_sumDown)])), (aX8_wished, aI X.cI 8 m_wished)] := by
  intro n
  induction n with
  | zero => intro m_wishes m_wished l1 l2 l4 r_m_wishes r_m_wished r_l1 r_l2 r_l4 h; exact False.elim h
  | succ n ih =>
    intro m_wishes m_wished l1 l2 l4 r_m_wishes r_m_wished r_l1 r_l2 r_l4 h
    rw [wp_X8_wish_22] at h
    refine q_iload g 4 3 rfl dX8_wish_22 ?_
    refine q_iload_n g 1 1 rfl dX8_wish_24 ?_
    refine q_icmp_ge g (32) 57 r_l4 r_l1 (by decide) dX8_wish_25 (fun b25 => ?_) (fun b25 => ?_)
    · replace h := h.1 b25
      refine q_iload_n g 1 1 rfl dX8_wish_57 ?_
      exact q_iret g hF ⟨l1, m_wishes, m_wished, rfl, rfl, r_l1, r_m_wishes, r_m_wished, h⟩ dX8_wish_58
    replace h := h.2 b25
    refine q_aload_n g 0 0 rfl dX8_wish_28 ?_
    refine q_get (C := RX8) (T := TX8) (N := 24) g 42 inX8 0 14 rfl rfl (by decide) wF_X8_42 rfl dX8_wish_29 ?_
    refine q_iload g 4 3 rfl dX8_wish_32 ?_
    refine q_lload_n g 2 2 rfl dX8_wish_34 ?_
    refine q_bipush g (8) (by decide) (by decide) dX8_wish_35 ?_
    refine q_iload_n g 1 1 rfl dX8_wish_37 ?_
    refine q_iconst g (1) dX8_wish_38 ?_
    obtain ⟨c39, h⟩ := h
    refine q_isub g dX8_wish_39 ?_
    refine q_iload g 4 3 rfl dX8_wish_40 ?_
    obtain ⟨c42, h⟩ := h
    refine q_isub g dX8_wish_42 ?_
    obtain ⟨c43, h⟩ := h
    refine q_imul g dX8_wish_43 ?_
    refine q_lshr g dX8_wish_44 ?_
    refine q_ldc2 (w := 255) g 160 (255) (by decide +kernel) wL_X8_160 dX8_wish_45 ?_
    refine q_land g dX8_wish_48 ?_
    obtain ⟨c49, h⟩ := h
    refine q_l2i g dX8_wish_49 ?_
    refine q_topi c49 (fun x50 ex50 rx50 => ?_)
    replace h := h x50 ex50
    obtain ⟨c50, h⟩ := h
    obtain ⟨e50, h⟩ := h
    refine q_iast (ws' := [(hX8, .inr (7, [.ref aX8_ups, .ref aX8_downs, .int (i32 m_many), .ref aX8_row, .int (i32 m_isSpent), .int (i32 m_found), .ref aX8_sumMany, .ref aX8_sumShares, .ref aX8_sumSet, .ref aX8_taken, .ref aX8_restUp, .ref aX8_restDown, .int (i32 m_fewest), .int (i32 m_wishes), .ref aX8_wished, .ref aX8_far, .ref aX8_queue, .int (i32 m_divided), .ref aX8_divisors, .ref aX8_least, .long (i64 m_pairOne), .long (i64 m_pairTwo), .long (i64 m_sumUp), .long (i64 m_sumDown)])), (aX8_wished, aI X.cI 8 (ups m_wished l4 x50))]) g 1 rfl c50 e50 (by decide) rfl dX8_wish_50 ?_
    obtain ⟨c51, h⟩ := h
    refine q_iinc (lv' := [(4, .int (i32 (l4 + 1))), (0, .ref hX8), (1, .int (i32 l1)), (2, .long (i64 l2))]) g 4 3 1 (by decide) rfl rfl dX8_wish_51 ?_
    refine q_goto g (-32) 22 (by decide) dX8_wish_54 ?_
    refine q_lv (lv' := [(0, .ref hX8), (1, .int (i32 l1)), (2, .long (i64 l2)), (4, .int (i32 (l4 + 1)))]) [1, 2, 3, 0] rfl ?_
    exact ih m_wishes (ups m_wished l4 x50) l1 l2 (l4 + 1) r_m_wishes (rr32_u r_m_wished rx50) r_l1 r_l2 c51 h
def wp_X8_wish (Q : Int → Int → (Int → Int) → Prop) (m_wishes : Int) (m_wished : Int → Int) (l1 : Int) (l2 : Int) : Prop := wp_X8_in (fun (x6 : Int) => ((¬ x6 = 0 → (∃ n0 : Nat, wp_X8_wish_22 Q n0 l1 m_wished l1 l2 0)) ∧
  (x6 = 0 → Q (-1) m_wishes m_wished))) l1 1 8
set_option maxHeartbeats 4000000 in
set_option maxRecDepth 100000 in
theorem c_X8_wish (l : Launch) (D : va_G) (cI cJ : ClassId) (zt : Nat) (hX8 : Nat) (aX8_ups : Nat) (aX8_downs : Nat) (m_many : Int) (aX8_row : Nat) (m_isSpent : Int) (m_found : Int) (aX8_sumMany : Nat) (aX8_sumShares : Nat) (aX8_sumSet : Nat) (aX8_taken : Nat) (aX8_restUp : Nat) (aX8_restDown : Nat) (m_fewest : Int) (m_wishes : Int) (aX8_wished : Nat) (aX8_far : Nat) (aX8_queue : Nat) (m_divided : Int) (aX8_divisors : Nat) (aX8_least : Nat) (m_pairOne : Int) (m_pairTwo : Int) (m_sumUp : Int) (m_sumDown : Int) (m_wished : Int → Int) (l1 : Int) (l2 : Int) (Q : Int → Int → (Int → Int) → Prop) (r_m_wishes : r32 m_wishes) (r_m_wished : rr32 m_wished) (r_l1 : r32 l1) (r_l2 : r64 l2) (h : wp_X8_wish Q m_wishes m_wished l1 l2) : Ct l D cI cJ zt yX8_wish cX8_wish 5 (some .int) 2 0 0 [.ref hX8, .int (i32 l1), .long (i64 l2)] [(hX8, .inr (7, [.ref aX8_ups, .ref aX8_downs, .int (i32 m_many), .ref aX8_row, .int (i32 m_isSpent), .int (i32 m_found), .ref aX8_sumMany, .ref aX8_sumShares, .ref aX8_sumSet, .ref aX8_taken, .ref aX8_restUp, .ref aX8_restDown, .int (i32 m_fewest), .int (i32 m_wishes), .ref aX8_wished, .ref aX8_far, .ref aX8_queue, .int (i32 m_divided), .ref aX8_divisors, .ref aX8_least, .long (i64 m_pairOne), .long (i64 m_pairTwo), .long (i64 m_sumUp), .long (i64 m_sumDown)])), (aX8_wished, aI cI 8 m_wished)] (po_X8_wish cI cJ hX8 aX8_ups aX8_downs m_many aX8_row m_isSpent m_found aX8_sumMany aX8_sumShares aX8_sumSet aX8_taken aX8_restUp aX8_restDown m_fewest aX8_wished aX8_far aX8_queue m_divided aX8_divisors aX8_least m_pairOne m_pairTwo m_sumUp m_sumDown Q) := by
  refine ct_of (by decide +kernel) (Nat.le_of_ble_eq_true rfl) (fun X hl hDD hcI hcJ hzt hR hF hnm g => ?_)
  subst hl; subst hDD; subst hcI; subst hcJ; subst hzt
  show Wat X 0 0 0 [(0, .ref hX8), (1, .int (i32 l1)), (2, .long (i64 l2))] [] [(hX8, .inr (7, [.ref aX8_ups, .ref aX8_downs, .int (i32 m_many), .ref aX8_row, .int (i32 m_isSpent), .int (i32 m_found), .ref aX8_sumMany, .ref aX8_sumShares, .ref aX8_sumSet, .ref aX8_taken, .ref aX8_restUp, .ref aX8_restDown, .int (i32 m_fewest), .int (i32 m_wishes), .ref aX8_wished, .ref aX8_far, .ref aX8_queue, .int (i32 m_divided), .ref aX8_divisors, .ref aX8_least, .long (i64 m_pairOne), .long (i64 m_pairTwo), .long (i64 m_sumUp), .long (i64 m_sumDown)])), (aX8_wished, aI X.cI 8 m_wished)]
  replace g : Gd X cX8_wish RX8 (some .int) 5 := g
  rw [wp_X8_wish] at h
  refine q_iload_n g 1 1 rfl dX8_wish_0 ?_
  refine q_i2l g r_l1 dX8_wish_1 ?_
  refine q_lconst g 1 1 rfl dX8_wish_2 ?_
  refine q_ldc2 (w := 8) g 155 (8) (by decide +kernel) wL_X8_155 dX8_wish_3 ?_
  refine q_callS (lev := 1) (mc := 0) (ms := 0) (As := [.long (i64 l1), .long (i64 1), .long (i64 8)]) g 60 (c_X8_in X.l X.D X.cI X.cJ X.zt l1 1 8 _ (r32_64 r_l1) (r64_lit _ (by decide)) (r64_lit _ (by decide)) h) (wr := [(hX8, .inr (7, [.ref aX8_ups, .ref aX8_downs, .int (i32 m_many), .ref aX8_row, .int (i32 m_isSpent), .int (i32 m_found), .ref aX8_sumMany, .ref aX8_sumShares, .ref aX8_sumSet, .ref aX8_taken, .ref aX8_restUp, .ref aX8_restDown, .int (i32 m_fewest), .int (i32 m_wishes), .ref aX8_wished, .ref aX8_far, .ref aX8_queue, .int (i32 m_divided), .ref aX8_divisors, .ref aX8_least, .long (i64 m_pairOne), .long (i64 m_pairTwo), .long (i64 m_sumUp), .long (i64 m_sumDown)])), (aX8_wished, aI X.cI 8 m_wished)]) [] [0, 1] rfl rfl rfl (by decide) (by decide) (by decide) wM_X8_60 wT_X8_in wZ_X8 wC_X8_in 3 rfl (by decide +kernel) (by rw [hR]; exact ⟨by show 1 + 1 ≤ 2; omega, by show 8 + (6 + 11) + 100 * 1 ≤ 100 * 2; omega⟩) (by rw [hR]; exact ⟨Nat.le_refl _, Nat.le_refl _⟩) (Nat.le_of_ble_eq_true rfl) rfl dX8_wish_6 (fun rv w1 hq => ?_)
  obtain ⟨x6, rfl, rfl, rx6, h⟩ := hq
  show Wat X 0 0 9 [(0, .ref hX8), (1, .int (i32 l1)), (2, .long (i64 l2))] [.int (i32 x6)] [(hX8, .inr (7, [.ref aX8_ups, .ref aX8_downs, .int (i32 m_many), .ref aX8_row, .int (i32 m_isSpent), .int (i32 m_found), .ref aX8_sumMany, .ref aX8_sumShares, .ref aX8_sumSet, .ref aX8_taken, .ref aX8_restUp, .ref aX8_restDown, .int (i32 m_fewest), .int (i32 m_wishes), .ref aX8_wished, .ref aX8_far, .ref aX8_queue, .int (i32 m_divided), .ref aX8_divisors, .ref aX8_least, .long (i64 m_pairOne), .long (i64 m_pairTwo), .long (i64 m_sumUp), .long (i64 m_sumDown)])), (aX8_wished, aI X.cI 8 m_wished)]
  refine q_if_ne g (5) 14 rx6 (by decide) dX8_wish_9 (fun b9 => ?_) (fun b9 => ?_)
  · replace h := h.1 b9
    refine q_aload_n g 0 0 rfl dX8_wish_14 ?_
    refine q_iload_n g 1 1 rfl dX8_wish_15 ?_
    refine q_put (C := RX8) (T := TX8) (N := 24) (ty := .int) (ws' := [(hX8, .inr (7, [.ref aX8_ups, .ref aX8_downs, .int (i32 m_many), .ref aX8_row, .int (i32 m_isSpent), .int (i32 m_found), .ref aX8_sumMany, .ref aX8_sumShares, .ref aX8_sumSet, .ref aX8_taken, .ref aX8_restUp, .ref aX8_restDown, .int (i32 m_fewest), .int (i32 l1), .ref aX8_wished, .ref aX8_far, .ref aX8_queue, .int (i32 m_divided), .ref aX8_divisors, .ref aX8_least, .long (i64 m_pairOne), .long (i64 m_pairTwo), .long (i64 m_sumUp), .long (i64 m_sumDown)])), (aX8_wished, aI X.cI 8 m_wished)]) g 157 inX8 tyX8_ok nmX8 0 13 rfl rfl (by decide) wF_X8_157 rfl rfl rfl rfl (Nat.le_of_ble_eq_true rfl) rfl dX8_wish_16 ?_
    refine q_iconst g (0) dX8_wish_19 ?_
    refine q_istore (lv' := [(4, .int (i32 0)), (0, .ref hX8), (1, .int (i32 l1)), (2, .long (i64 l2))]) g 4   (by decide) rfl dX8_wish_20 ?_
    refine q_lv (lv' := [(0, .ref hX8), (1, .int (i32 l1)), (2, .long (i64 l2)), (4, .int (i32 0))]) [1, 2, 3, 0] rfl ?_
    obtain ⟨n0, h⟩ := h
    exact s_X8_wish_22 g hR hX8 aX8_ups aX8_downs m_many aX8_row m_isSpent m_found aX8_sumMany aX8_sumShares aX8_sumSet aX8_taken aX8_restUp aX8_restDown m_fewest aX8_wished aX8_far aX8_queue m_divided aX8_divisors aX8_least m_pairOne m_pairTwo m_sumUp m_sumDown Q hF n0 l1 m_wished l1 l2 0 r_l1 r_m_wished r_l1 r_l2 (r32_lit _ (by decide)) h
  replace h := h.2 b9
  refine q_iconst g (-1) dX8_wish_12 ?_
  exact q_iret g hF ⟨(-1), m_wishes, m_wished, rfl, rfl, (r32_lit _ (by decide)), r_m_wishes, r_m_wished, h⟩ dX8_wish_13
