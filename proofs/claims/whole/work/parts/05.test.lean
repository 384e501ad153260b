theorem wC_X8_gcd : Cond.code yX8_gcd cX8_gcd 10 (some .long) ∈ TT := List.mem_filter.mpr ⟨List.mem_append_right _ (List.mem_of_getElem? (i := 812) (by decide +kernel)), rfl⟩
theorem wC_X8_in : Cond.code yX8_in cX8_in 6 (some .boolean) ∈ TT := List.mem_filter.mpr ⟨List.mem_append_right _ (List.mem_of_getElem? (i := 804) (by decide +kernel)), rfl⟩
theorem wF_X8_13 : Cond.fieldLink RX8 13 (TX8 1).1 (TX8 1).2.1 (TX8 1).2.2.1 ∈ TT := List.mem_filter.mpr ⟨List.mem_append_right _ (List.mem_of_getElem? (i := 722) (by decide +kernel)), rfl⟩
theorem wF_X8_16 : Cond.fieldLink RX8 16 (TX8 3).1 (TX8 3).2.1 (TX8 3).2.2.1 ∈ TT := List.mem_filter.mpr ⟨List.mem_append_right _ (List.mem_of_getElem? (i := 724) (by decide +kernel)), rfl⟩
theorem wF_X8_7 : Cond.fieldLink RX8 7 (TX8 0).1 (TX8 0).2.1 (TX8 0).2.2.1 ∈ TT := List.mem_filter.mpr ⟨List.mem_append_right _ (List.mem_of_getElem? (i := 721) (by decide +kernel)), rfl⟩
theorem wF_X8_80 : Cond.fieldLink RX8 80 (TX8 4).1 (TX8 4).2.1 (TX8 4).2.2.1 ∈ TT := List.mem_filter.mpr ⟨List.mem_append_right _ (List.mem_of_getElem? (i := 725) (by decide +kernel)), rfl⟩
theorem wF_X8_84 : Cond.fieldLink RX8 84 (TX8 2).1 (TX8 2).2.1 (TX8 2).2.2.1 ∈ TT := List.mem_filter.mpr ⟨List.mem_append_right _ (List.mem_of_getElem? (i := 723) (by decide +kernel)), rfl⟩
theorem wL_X8_58 : Cond.constantLong RX8 58 (7) ∈ TT := List.mem_filter.mpr ⟨List.mem_append_right _ (List.mem_of_getElem? (i := 801) (by decide +kernel)), rfl⟩
theorem wL_X8_87 : Cond.constantLong RX8 87 (1000000000000) ∈ TT := List.mem_filter.mpr ⟨List.mem_append_right _ (List.mem_of_getElem? (i := 851) (by decide +kernel)), rfl⟩
theorem wM_X8_60 : Cond.methodLink RX8 60 yX8_in ∈ TT := List.mem_filter.mpr ⟨List.mem_append_right _ (List.mem_of_getElem? (i := 802) (by decide +kernel)), rfl⟩
theorem wM_X8_64 : Cond.methodLink RX8 64 yX8_gcd ∈ TT := List.mem_filter.mpr ⟨List.mem_append_right _ (List.mem_of_getElem? (i := 810) (by decide +kernel)), rfl⟩
theorem wT_X8_gcd : Cond.static yX8_gcd ∈ TT := List.mem_filter.mpr ⟨List.mem_append_right _ (List.mem_of_getElem? (i := 811) (by decide +kernel)), rfl⟩
theorem wT_X8_in : Cond.static yX8_in ∈ TT := List.mem_filter.mpr ⟨List.mem_append_right _ (List.mem_of_getElem? (i := 803) (by decide +kernel)), rfl⟩
theorem wZ_X8 : Cond.initialized RX8 ∈ TT := List.mem_filter.mpr ⟨List.mem_append_right _ (List.mem_of_getElem? (i := 10) (by decide +kernel)), rfl⟩
theorem dJ7_fill_d0a16_0 : decode cJ7_fill_d0a16 0 = .ok (.iconst 0, 1) := by decide +kernel
theorem dJ7_fill_d0a16_1 : decode cJ7_fill_d0a16 1 = .ok (.istore_n 3, 1) := by decide +kernel
theorem dJ7_fill_d0a16_2 : decode cJ7_fill_d0a16 2 = .ok (.aload_n 0, 1) := by decide +kernel
theorem dJ7_fill_d0a16_3 : decode cJ7_fill_d0a16 3 = .ok (.arraylength, 1) := by decide +kernel
theorem dJ7_fill_d0a16_4 : decode cJ7_fill_d0a16 4 = .ok (.istore 4, 2) := by decide +kernel
theorem dJ7_fill_d0a16_6 : decode cJ7_fill_d0a16 6 = .ok (.iload_n 3, 1) := by decide +kernel
theorem dJ7_fill_d0a16_7 : decode cJ7_fill_d0a16 7 = .ok (.iload 4, 2) := by decide +kernel
theorem dJ7_fill_d0a16_9 : decode cJ7_fill_d0a16 9 = .ok (.if_icmp .ge 13, 3) := by decide +kernel
theorem dJ7_fill_d0a16_12 : decode cJ7_fill_d0a16 12 = .ok (.aload_n 0, 1) := by decide +kernel
theorem dJ7_fill_d0a16_13 : decode cJ7_fill_d0a16 13 = .ok (.iload_n 3, 1) := by decide +kernel
theorem dJ7_fill_d0a16_14 : decode cJ7_fill_d0a16 14 = .ok (.lload_n 1, 1) := by decide +kernel
theorem dJ7_fill_d0a16_15 : decode cJ7_fill_d0a16 15 = .ok (.lastore, 1) := by decide +kernel
theorem dJ7_fill_d0a16_16 : decode cJ7_fill_d0a16 16 = .ok (.iinc 3 1, 3) := by decide +kernel
theorem dJ7_fill_d0a16_19 : decode cJ7_fill_d0a16 19 = .ok (.goto (-13), 3) := by decide +kernel
theorem dJ7_fill_d0a16_22 : decode cJ7_fill_d0a16 22 = .ok (.return_, 1) := by decide +kernel
abbrev po_J7_fill_d0a16 (cI cJ : ClassId) (aP0_row : Nat) (zP0 : Nat) (Q : (Int → Int) → Prop) : Option Value → va_W → Prop := fun rv w1 => ∃ (p0_row : Int → Int), rv = none ∧ w1 = [(aP0_row, aL cJ zP0 p0_row)] ∧ rr64 p0_row ∧ Q p0_row
def wp_J7_fill_d0a16_6 (Q : (Int → Int) → Prop) (zP0 : Nat) : Nat → (Int → Int) → Int → Int → Int → Prop
  | 0, _, _, _, _ => False
  | n + 1, p0_row, l1, l3, l4 => ((l4 ≤ l3 → Q p0_row) ∧
  (¬ (l4 ≤ l3) → (0 ≤ l3 ∧ l3 < (zP0 : Int) ∧ r32 (l3 + 1) ∧ wp_J7_fill_d0a16_6 Q zP0 n (ups p0_row l3 l1) l1 (l3 + 1) l4)))
set_option maxHeartbeats 4000000 in
set_option maxRecDepth 100000 in
theorem s_J7_fill_d0a16_6 {X : Cx} (g : Gd X cJ7_fill_d0a16 RJ7 none 5) (hR : X.R = rmL 1 0 0) (aP0_row : Nat) (zP0 : Nat) (hzP0 : zP0 < 2147483648) (Q : (Int → Int) → Prop) (hF : FQ X 0 0 (po_J7_fill_d0a16 X.cI X.cJ aP0_row zP0 Q)) : ∀ (n : Nat) (p0_row : Int → Int) (l1 : Int) (l3 : Int) (l4 : Int), rr64 p0_row → r64 l1 → r32 l3 → r32 l4 → wp_J7_fill_d0a16_6 Q zP0 n p0_row l1 l3 l4 → Wat X 0 0 6 [(0, .ref aP0_row), (1, .long (i64 l1)), (3, .int (i32 l3)), (4, .int (i32 l4))] [] [(aP0_row, aL X.cJ zP0 p0_row)] := by
  intro n
  induction n with
  | zero => intro p0_row l1 l3 l4 r_p0_row r_l1 r_l3 r_l4 h; exact False.elim h
  | succ n ih =>
    intro p0_row l1 l3 l4 r_p0_row r_l1 r_l3 r_l4 h
    rw [wp_J7_fill_d0a16_6] at h
    refine q_iload_n g 3 2 rfl dJ7_fill_d0a16_6 ?_
    refine q_iload g 4 3 rfl dJ7_fill_d0a16_7 ?_
    refine q_icmp_ge g (13) 22 r_l3 r_l4 (by decide) dJ7_fill_d0a16_9 (fun b9 => ?_) (fun b9 => ?_)
    · replace h := h.1 b9
      exact q_vret g hF ⟨p0_row, rfl, rfl, r_p0_row, h⟩ dJ7_fill_d0a16_22
    replace h := h.2 b9
    refine q_aload_n g 0 0 rfl dJ7_fill_d0a16_12 ?_
    refine q_iload_n g 3 2 rfl dJ7_fill_d0a16_13 ?_
    refine q_lload_n g 1 1 rfl dJ7_fill_d0a16_14 ?_
    obtain ⟨c15, h⟩ := h
    obtain ⟨e15, h⟩ := h
    refine q_last (ws' := [(aP0_row, aL X.cJ zP0 (ups p0_row l3 l1))]) g 0 rfl c15 e15 hzP0 rfl dJ7_fill_d0a16_15 ?_
    obtain ⟨c16, h⟩ := h
    refine q_iinc (lv' := [(3, .int (i32 (l3 + 1))), (0, .ref aP0_row), (1, .long (i64 l1)), (4, .int (i32 l4))]) g 3 2 1 (by decide) rfl rfl dJ7_fill_d0a16_16 ?_
    refine q_goto g (-13) 6 (by decide) dJ7_fill_d0a16_19 ?_
    refine q_lv (lv' := [(0, .ref aP0_row), (1, .long (i64 l1)), (3, .int (i32 (l3 + 1))), (4, .int (i32 l4))]) [1, 2, 0, 3] rfl ?_
    exact ih (ups p0_row l3 l1) l1 (l3 + 1) l4 (rr64_u r_p0_row r_l1) r_l1 c16 r_l4 h
def wp_J7_fill_d0a16 (Q : (Int → Int) → Prop) (zP0 : Nat) (p0_row : Int → Int) (l1 : Int) : Prop := (∀ x4 : Int, x4 = (zP0 : Int) → (∃ n0 : Nat, wp_J7_fill_d0a16_6 Q zP0 n0 p0_row l1 0 x4))
set_option maxHeartbeats 4000000 in
set_option maxRecDepth 100000 in
theorem c_J7_fill_d0a16 (l : Launch) (D : va_G) (cI cJ : ClassId) (zt : Nat) (aP0_row : Nat) (zP0 : Nat) (p0_row : Int → Int) (l1 : Int) (Q : (Int → Int) → Prop) (r_p0_row : rr64 p0_row) (r_l1 : r64 l1) (hzP0 : zP0 < 2147483648) (h : wp_J7_fill_d0a16 Q zP0 p0_row l1) : Ct l D cI cJ zt yJ7_fill_d0a16 cJ7_fill_d0a16 5 none 1 0 0 [.ref aP0_row, .long (i64 l1)] [(aP0_row, aL cJ zP0 p0_row)] (po_J7_fill_d0a16 cI cJ aP0_row zP0 Q) := by
  refine ct_of (by decide +kernel) (Nat.le_of_ble_eq_true rfl) (fun X hl hDD hcI hcJ hzt hR hF hnm g => ?_)
  subst hl; subst hDD; subst hcI; subst hcJ; subst hzt
  show Wat X 0 0 0 [(0, .ref aP0_row), (1, .long (i64 l1))] [] [(aP0_row, aL X.cJ zP0 p0_row)]
  replace g : Gd X cJ7_fill_d0a16 RJ7 none 5 := g
  rw [wp_J7_fill_d0a16] at h
  refine q_iconst g (0) dJ7_fill_d0a16_0 ?_
  refine q_istore_n (lv' := [(3, .int (i32 0)), (0, .ref aP0_row), (1, .long (i64 l1))]) g 3 3 rfl (by decide) rfl dJ7_fill_d0a16_1 ?_
  refine q_aload_n g 0 1 rfl dJ7_fill_d0a16_2 ?_
  refine q_alenL g 0 (zP0 : Int) rfl rfl dJ7_fill_d0a16_3 ?_
  refine q_topi (zrng hzP0) (fun x4 ex4 rx4 => ?_)
  replace h := h x4 ex4
  refine q_istore (lv' := [(4, .int (i32 x4)), (3, .int (i32 0)), (0, .ref aP0_row), (1, .long (i64 l1))]) g 4   (by decide) rfl dJ7_fill_d0a16_4 ?_
  refine q_lv (lv' := [(0, .ref aP0_row), (1, .long (i64 l1)), (3, .int (i32 0)), (4, .int (i32 x4))]) [2, 3, 1, 0] rfl ?_
  obtain ⟨n0, h⟩ := h
  exact s_J7_fill_d0a16_6 g hR aP0_row zP0 hzP0 Q hF n0 p0_row l1 0 x4 r_p0_row r_l1 (r32_lit _ (by decide)) rx4 h
theorem dX8_in_0 : decode cX8_in 0 = .ok (.lload_n 0, 1) := by decide +kernel
theorem dX8_in_1 : decode cX8_in 1 = .ok (.lload_n 2, 1) := by decide +kernel
theorem dX8_in_2 : decode cX8_in 2 = .ok (.lcmp, 1) := by decide +kernel
theorem dX8_in_3 : decode cX8_in 3 = .ok (.ifCond .lt 14, 3) := by decide +kernel
theorem dX8_in_6 : decode cX8_in 6 = .ok (.lload_n 0, 1) := by decide +kernel
theorem dX8_in_7 : decode cX8_in 7 = .ok (.lload 4, 2) := by decide +kernel
theorem dX8_in_9 : decode cX8_in 9 = .ok (.lcmp, 1) := by decide +kernel
theorem dX8_in_10 : decode cX8_in 10 = .ok (.ifCond .gt 7, 3) := by decide +kernel
theorem dX8_in_13 : decode cX8_in 13 = .ok (.iconst 1, 1) := by decide +kernel
theorem dX8_in_14 : decode cX8_in 14 = .ok (.goto 4, 3) := by decide +kernel
theorem dX8_in_17 : decode cX8_in 17 = .ok (.iconst 0, 1) := by decide +kernel
theorem dX8_in_18 : decode cX8_in 18 = .ok (.ireturn, 1) := by decide +kernel
abbrev po_X8_in (cI cJ : ClassId) (Q : Int → Prop) : Option Value → va_W → Prop := fun rv w1 => ∃ (r0 : Int), rv = some (.int (i32 r0)) ∧ w1 = [] ∧ r32 r0 ∧ Q r0
def wp_X8_in_18 (Q : Int → Prop) (k0 : Int) : Prop := ((k0 = 0 ∨ k0 = 1) ∧ Q k0)
set_option maxHeartbeats 4000000 in
set_option maxRecDepth 100000 in
theorem s_X8_in_18 {X : Cx} (g : Gd X cX8_in RX8 (some .boolean) 6) (hR : X.R = rmL 1 0 0) (Q : Int → Prop) (hF : FQ X 0 0 (po_X8_in X.cI X.cJ Q)) : ∀ (k0 : Int), r32 k0 → wp_X8_in_18 Q k0 → Wat X 0 0 18 [] [.int (i32 k0)] [] := by
  intro k0 r_k0 h
  rw [wp_X8_in_18] at h
  obtain ⟨z18, h⟩ := h
  exact q_zret g hF z18 ⟨k0, rfl, rfl, r_k0, h⟩ dX8_in_18
def wp_X8_in_17 (Q : Int → Prop) : Prop := wp_X8_in_18 Q 0
set_option maxHeartbeats 4000000 in
set_option maxRecDepth 100000 in
theorem s_X8_in_17 {X : Cx} (g : Gd X cX8_in RX8 (some .boolean) 6) (hR : X.R = rmL 1 0 0) (Q : Int → Prop) (hF : FQ X 0 0 (po_X8_in X.cI X.cJ Q)) : wp_X8_in_17 Q → Wat X 0 0 17 [] [] [] := by
  intro h
  rw [wp_X8_in_17] at h
  refine q_iconst g (0) dX8_in_17 ?_
  exact s_X8_in_18 g hR Q hF 0 (r32_lit _ (by decide)) h
def wp_X8_in (Q : Int → Prop) (l0 : Int) (l2 : Int) (l4 : Int) : Prop := ((l0 < l2 → wp_X8_in_17 Q) ∧
  (¬ (l0 < l2) → ((l4 < l0 → wp_X8_in_17 Q) ∧
  (¬ (l4 < l0) → wp_X8_in_18 Q 1))))
set_option maxHeartbeats 4000000 in
set_option maxRecDepth 100000 in
theorem c_X8_in (l : Launch) (D : va_G) (cI cJ : ClassId) (zt : Nat) (l0 : Int) (l2 : Int) (l4 : Int) (Q : Int → Prop) (r_l0 : r64 l0) (r_l2 : r64 l2) (r_l4 : r64 l4) (h : wp_X8_in Q l0 l2 l4) : Ct l D cI cJ zt yX8_in cX8_in 6 (some .boolean) 1 0 0 [.long (i64 l0), .long (i64 l2), .long (i64 l4)] [] (po_X8_in cI cJ Q) := by
  refine ct_of (by decide +kernel) (Nat.le_of_ble_eq_true rfl) (fun X hl hDD hcI hcJ hzt hR hF hnm g => ?_)
  subst hl; subst hDD; subst hcI; subst hcJ; subst hzt
  show Wat X 0 0 0 [(0, .long (i64 l0)), (2, .long (i64 l2)), (4, .long (i64 l4))] [] []
  replace g : Gd X cX8_in RX8 (some .boolean) 6 := g
  rw [wp_X8_in] at h
  refine q_lload_n g 0 0 rfl dX8_in_0 ?_
  refine q_lload_n g 2 1 rfl dX8_in_1 ?_
  refine q_lcmp_lt g (14) 17 r_l0 r_l2 (by decide) dX8_in_2 dX8_in_3 (fun b2 => ?_) (fun b2 => ?_)
  · replace h := h.1 b2
    refine q_lv (lv' := []) [] rfl ?_
    exact s_X8_in_17 g hR Q hF h
  replace h := h.2 b2
  refine q_lload_n g 0 0 rfl dX8_in_6 ?_
  refine q_lload g 4 2 rfl dX8_in_7 ?_
  refine q_lcmp_gt g (7) 17 r_l0 r_l4 (by decide) dX8_in_9 dX8_in_10 (fun b9 => ?_) (fun b9 => ?_)
  · replace h := h.1 b9
    refine q_lv (lv' := []) [] rfl ?_
    exact s_X8_in_17 g hR Q hF h
  replace h := h.2 b9
  refine q_iconst g (1) dX8_in_13 ?_
  refine q_goto g (4) 18 (by decide) dX8_in_14 ?_
  refine q_lv (lv' := []) [] rfl ?_
  exact s_X8_in_18 g hR Q hF 1 (r32_lit _ (by decide)) h
theorem dX8_isRegister_0 : decode cX8_isRegister 0 = .ok (.iload_n 0, 1) := by decide +kernel
theorem dX8_isRegister_1 : decode cX8_isRegister 1 = .ok (.i2l, 1) := by decide +kernel
theorem dX8_isRegister_2 : decode cX8_isRegister 2 = .ok (.lconst 0, 1) := by decide +kernel
theorem dX8_isRegister_3 : decode cX8_isRegister 3 = .ok (.ldc2_w 58, 3) := by decide +kernel
theorem dX8_isRegister_6 : decode cX8_isRegister 6 = .ok (.invokestatic 60, 3) := by decide +kernel
theorem dX8_isRegister_9 : decode cX8_isRegister 9 = .ok (.ireturn, 1) := by decide +kernel
abbrev po_X8_isRegister (cI cJ : ClassId) (Q : Int → Prop) : Option Value → va_W → Prop := fun rv w1 => ∃ (r0 : Int), rv = some (.int (i32 r0)) ∧ w1 = [] ∧ r32 r0 ∧ Q r0
def wp_X8_isRegister (Q : Int → Prop) (l0 : Int) : Prop := wp_X8_in (fun (x6 : Int) => ((x6 = 0 ∨ x6 = 1) ∧ Q x6)) l0 0 7
set_option maxHeartbeats 4000000 in
set_option maxRecDepth 100000 in
theorem c_X8_isRegister (l : Launch) (D : va_G) (cI cJ : ClassId) (zt : Nat) (l0 : Int) (Q : Int → Prop) (r_l0 : r32 l0) (h : wp_X8_isRegister Q l0) : Ct l D cI cJ zt yX8_isRegister cX8_isRegister 1 (some .boolean) 2 0 0 [.int (i32 l0)] [] (po_X8_isRegister cI cJ Q) := by
  refine ct_of (by decide +kernel) (Nat.le_of_ble_eq_true rfl) (fun X hl hDD hcI hcJ hzt hR hF hnm g => ?_)
  subst hl; subst hDD; subst hcI; subst hcJ; subst hzt
  show Wat X 0 0 0 [(0, .int (i32 l0))] [] []
  replace g : Gd X cX8_isRegister RX8 (some .boolean) 1 := g
  rw [wp_X8_isRegister] at h
  refine q_iload_n g 0 0 rfl dX8_isRegister_0 ?_
  refine q_i2l g r_l0 dX8_isRegister_1 ?_
  refine q_lconst g 0 0 rfl dX8_isRegister_2 ?_
  refine q_ldc2 g 58 (7) rfl wL_X8_58 dX8_isRegister_3 ?_
  refine q_callS (lev := 1) (mc := 0) (ms := 0) (As := [.long (i64 l0), .long (i64 0), .long (i64 7)]) g 60 (c_X8_in X.l X.D X.cI X.cJ X.zt l0 0 7 _ (r32_64 r_l0) (r64_lit _ (by decide)) (r64_lit _ (by decide)) h) (wr := []) [] [] rfl rfl rfl (by decide) (by decide) (by decide) wM_X8_60 wT_X8_in wZ_X8 wC_X8_in 3 rfl (by decide +kernel) (by rw [hR]; exact ⟨by show 1 + 1 ≤ 2; omega, by show 8 + (6 + 11) + 100 * 1 ≤ 100 * 2; omega⟩) (by rw [hR]; exact ⟨Nat.le_refl _, Nat.le_refl _⟩) (by decide) rfl dX8_isRegister_6 (fun rv w1 hq => ?_)
  obtain ⟨x6, rfl, rfl, rx6, h⟩ := hq
  show Wat X 0 0 9 [(0, .int (i32 l0))] [.int (i32 x6)] []
  obtain ⟨z9, h⟩ := h
  exact q_zret g hF z9 ⟨x6, rfl, rfl, rx6, h⟩ dX8_isRegister_9
theorem dX8_put_0 : decode cX8_put 0 = .ok (.aload_n 0, 1) := by decide +kernel
theorem dX8_put_1 : decode cX8_put 1 = .ok (.aload_n 0, 1) := by decide +kernel
theorem dX8_put_2 : decode cX8_put 2 = .ok (.getfield 80, 3) := by decide +kernel
theorem dX8_put_5 : decode cX8_put 5 = .ok (.ifCond .ne 20, 3) := by decide +kernel
theorem dX8_put_8 : decode cX8_put 8 = .ok (.aload_n 0, 1) := by decide +kernel
theorem dX8_put_9 : decode cX8_put 9 = .ok (.getfield 84, 3) := by decide +kernel
theorem dX8_put_12 : decode cX8_put 12 = .ok (.bipush 16, 2) := by decide +kernel
theorem dX8_put_14 : decode cX8_put 14 = .ok (.if_icmp .eq 11, 3) := by decide +kernel
theorem dX8_put_17 : decode cX8_put 17 = .ok (.lload_n 1, 1) := by decide +kernel
theorem dX8_put_18 : decode cX8_put 18 = .ok (.ldc2_w 87, 3) := by decide +kernel
theorem dX8_put_21 : decode cX8_put 21 = .ok (.lcmp, 1) := by decide +kernel
theorem dX8_put_22 : decode cX8_put 22 = .ok (.ifCond .le 7, 3) := by decide +kernel
theorem dX8_put_25 : decode cX8_put 25 = .ok (.iconst 1, 1) := by decide +kernel
theorem dX8_put_26 : decode cX8_put 26 = .ok (.goto 4, 3) := by decide +kernel
theorem dX8_put_29 : decode cX8_put 29 = .ok (.iconst 0, 1) := by decide +kernel
theorem dX8_put_30 : decode cX8_put 30 = .ok (.putfield 80, 3) := by decide +kernel
theorem dX8_put_33 : decode cX8_put 33 = .ok (.aload_n 0, 1) := by decide +kernel
theorem dX8_put_34 : decode cX8_put 34 = .ok (.getfield 80, 3) := by decide +kernel
theorem dX8_put_37 : decode cX8_put 37 = .ok (.ifCond .ne 23, 3) := by decide +kernel
theorem dX8_put_40 : decode cX8_put 40 = .ok (.aload_n 0, 1) := by decide +kernel
theorem dX8_put_41 : decode cX8_put 41 = .ok (.getfield 16, 3) := by decide +kernel
theorem dX8_put_44 : decode cX8_put 44 = .ok (.aload_n 0, 1) := by decide +kernel
theorem dX8_put_45 : decode cX8_put 45 = .ok (.getfield 84, 3) := by decide +kernel
theorem dX8_put_48 : decode cX8_put 48 = .ok (.lload_n 1, 1) := by decide +kernel
theorem dX8_put_49 : decode cX8_put 49 = .ok (.lastore, 1) := by decide +kernel
theorem dX8_put_50 : decode cX8_put 50 = .ok (.aload_n 0, 1) := by decide +kernel
theorem dX8_put_51 : decode cX8_put 51 = .ok (.dup, 1) := by decide +kernel
theorem dX8_put_52 : decode cX8_put 52 = .ok (.getfield 84, 3) := by decide +kernel
theorem dX8_put_55 : decode cX8_put 55 = .ok (.iconst 1, 1) := by decide +kernel
theorem dX8_put_56 : decode cX8_put 56 = .ok (.iadd, 1) := by decide +kernel
theorem dX8_put_57 : decode cX8_put 57 = .ok (.putfield 84, 3) := by decide +kernel
theorem dX8_put_60 : decode cX8_put 60 = .ok (.return_, 1) := by decide +kernel
abbrev po_X8_put (cI cJ : ClassId) (hX8 : Nat) (aX8_ups : Nat) (aX8_downs : Nat) (aX8_row : Nat) (m_found : Int) (aX8_sumMany : Nat) (aX8_sumShares : Nat) (aX8_sumSet : Nat) (aX8_taken : Nat) (aX8_restUp : Nat) (aX8_restDown : Nat) (m_fewest : Int) (m_wishes : Int) (aX8_wished : Nat) (aX8_far : Nat) (aX8_queue : Nat) (m_divided : Int) (aX8_divisors : Nat) (aX8_least : Nat) (m_pairOne : Int) (m_pairTwo : Int) (m_sumUp : Int) (m_sumDown : Int) (Q : Int → (Int → Int) → Int → Prop) : Option Value → va_W → Prop := fun rv w1 => ∃ (m_many : Int) (m_row : Int → Int) (m_isSpent : Int), rv = none ∧ w1 = [(hX8, .inr (7, [.ref aX8_ups, .ref aX8_downs, .int (i32 m_many), .ref aX8_row, .int (i32 m_isSpent), .int (i32 m_found), .ref aX8_sumMany, .ref aX8_sumShares, .ref aX8_sumSet, .ref aX8_taken, .ref aX8_restUp, .ref aX8_restDown, .int (i32 m_fewest), .int (i32 m_wishes), .ref aX8_wished, .ref aX8_far, .ref aX8_queue, .int (i32 m_divided), .ref aX8_divisors, .ref aX8_least, .long (i64 m_pairOne), .long (i64 m_pairTwo), .long (i64 m_sumUp), .long (i64 m_sumDown)])), (aX8_row, aL cJ 17 m_row)] ∧ r32 m_many ∧ rr64 m_row ∧ r32 m_isSpent ∧ Q m_many m_row m_isSpent
def wp_X8_put_60 (Q : Int → (Int → Int) → Int → Prop) (m_many : Int) (m_row : Int → Int) (m_isSpent : Int) : Prop := Q m_many m_row m_isSpent
set_option maxHeartbeats 4000000 in
set_option maxRecDepth 100000 in
theorem s_X8_put_60 {X : Cx} (g : Gd X cX8_put RX8 none 3) (hR : X.R = rmL 1 0 0) (hX8 : Nat) (aX8_ups : Nat) (aX8_downs : Nat) (aX8_row : Nat) (m_found : Int) (aX8_sumMany : Nat) (aX8_sumShares : Nat) (aX8_sumSet : Nat) (aX8_taken : Nat) (aX8_restUp : Nat) (aX8_restDown : Nat) (m_fewest : Int) (m_wishes : Int) (aX8_wished : Nat) (aX8_far : Nat) (aX8_queue : Nat) (m_divided : Int) (aX8_divisors : Nat) (aX8_least : Nat) (m_pairOne : Int) (m_pairTwo : Int) (m_sumUp : Int) (m_sumDown : Int) (Q : Int → (Int → Int) → Int → Prop) (hF : FQ X 0 0 (po_X8_put X.cI X.cJ hX8 aX8_ups aX8_downs aX8_row m_found aX8_sumMany aX8_sumShares aX8_sumSet aX8_taken aX8_restUp aX8_restDown m_fewest m_wishes aX8_wished aX8_far aX8_queue m_divided aX8_divisors aX8_least m_pairOne m_pairTwo m_sumUp m_sumDown Q)) : ∀ (m_many : Int) (m_row : Int → Int) (m_isSpent : Int), r32 m_many → rr64 m_row → r32 m_isSpent → wp_X8_put_60 Q m_many m_row m_isSpent → Wat X 0 0 60 [] [] [(hX8, .inr (7, [.ref aX8_ups, .ref aX8_downs, .int (i32 m_many), .ref aX8_row, .int (i32 m_isSpent), .int (i32 m_found), .ref aX8_sumMany, .ref aX8_sumShares, .ref aX8_sumSet, .ref aX8_taken, .ref aX8_restUp, .ref aX8_restDown, .int (i32 m_fewest), .int (i32 m_wishes), .ref aX8_wished, .ref aX8_far, .ref aX8_queue, .int (i32 m_divided), .ref aX8_divisors, .ref aX8_least, .long (i64 m_pairOne), .long (i64 m_pairTwo), .long (i64 m_sumUp), .long (i64 m_sumDown)])), (aX8_row, aL X.cJ 17 m_row)] := by
  intro m_many m_row m_isSpent r_m_many r_m_row r_m_isSpent h
  rw [wp_X8_put_60] at h
  exact q_vret g hF ⟨m_many, m_row, m_isSpent, rfl, rfl, r_m_many, r_m_row, r_m_isSpent, h⟩ dX8_put_60
def wp_X8_put_30 (Q : Int → (Int → Int) → Int → Prop) (m_many : Int) (m_row : Int → Int) (m_isSpent : Int) (l1 : Int) (k1 : Int) : Prop := ((k1 = 0 ∨ k1 = 1) ∧ ((¬ k1 = 0 → wp_X8_put_60 Q m_many m_row k1) ∧
  (k1 = 0 → (0 ≤ m_many ∧ m_many < 17 ∧ r32 (m_many + 1) ∧ ∀ x57 : Int, x57 = (m_many + 1) → wp_X8_put_60 Q x57 (ups m_row m_many l1) k1))))
set_option maxHeartbeats 4000000 in
set_option maxRecDepth 100000 in
theorem s_X8_put_30 {X : Cx} (g : Gd X cX8_put RX8 none 3) (hR : X.R = rmL 1 0 0) (hX8 : Nat) (aX8_ups : Nat) (aX8_downs : Nat) (aX8_row : Nat) (m_found : Int) (aX8_sumMany : Nat) (aX8_sumShares : Nat) (aX8_sumSet : Nat) (aX8_taken : Nat) (aX8_restUp : Nat) (aX8_restDown : Nat) (m_fewest : Int) (m_wishes : Int) (aX8_wished : Nat) (aX8_far : Nat) (aX8_queue : Nat) (m_divided : Int) (aX8_divisors : Nat) (aX8_least : Nat) (m_pairOne : Int) (m_pairTwo : Int) (m_sumUp : Int) (m_sumDown : Int) (Q : Int → (Int → Int) → Int → Prop) (hF : FQ X 0 0 (po_X8_put X.cI X.cJ hX8 aX8_ups aX8_downs aX8_row m_found aX8_sumMany aX8_sumShares aX8_sumSet aX8_taken aX8_restUp aX8_restDown m_fewest m_wishes aX8_wished aX8_far aX8_queue m_divided aX8_divisors aX8_least m_pairOne m_pairTwo m_sumUp m_sumDown Q)) : ∀ (m_many : Int) (m_row : Int → Int) (m_isSpent : Int) (l1 : Int) (k1 : Int), r32 m_many → rr64 m_row → r32 m_isSpent → r64 l1 → r32 k1 → wp_X8_put_30 Q m_many m_row m_isSpent l1 k1 → Wat X 0 0 30 [(0, .ref hX8), (1, .long (i64 l1))] [.int (i32 k1), .ref hX8] [(hX8, .inr (7, [.ref aX8_ups, .ref aX8_downs, .int (i32 m_many), .ref aX8_row, .int (i32 m_isSpent), .int (i32 m_found), .ref aX8_sumMany, .ref aX8_sumShares, .ref aX8_sumSet, .ref aX8_taken, .ref aX8_restUp, .ref aX8_restDown, .int (i32 m_fewest), .int (i32 m_wishes), .ref aX8_wished, .ref aX8_far, .ref aX8_queue, .int (i32 m_divided), .ref aX8_divisors, .ref aX8_least, .long (i64 m_pairOne), .long (i64 m_pairTwo), .long (i64 m_sumUp), .long (i64 m_sumDown)])), (aX8_row, aL X.cJ 17 m_row)] := by
  intro m_many m_row m_isSpent l1 k1 r_m_many r_m_row r_m_isSpent r_l1 r_k1 h
  rw [wp_X8_put_30] at h
  obtain ⟨z30, h⟩ := h
  refine q_put (C := RX8) (T := TX8) (N := 24) (ty := .boolean) (ws' := [(hX8, .inr (7, [.ref aX8_ups, .ref aX8_downs, .int (i32 m_many), .ref aX8_row, .int (i32 k1), .int (i32 m_found), .ref aX8_sumMany, .ref aX8_sumShares, .ref aX8_sumSet, .ref aX8_taken, .ref aX8_restUp, .ref aX8_restDown, .int (i32 m_fewest), .int (i32 m_wishes), .ref aX8_wished, .ref aX8_far, .ref aX8_queue, .int (i32 m_divided), .ref aX8_divisors, .ref aX8_least, .long (i64 m_pairOne), .long (i64 m_pairTwo), .long (i64 m_sumUp), .long (i64 m_sumDown)])), (aX8_row, aL X.cJ 17 m_row)]) g 80 inX8 tyX8_ok nmX8 0 4 rfl rfl (by decide) wF_X8_80 rfl rfl (zb_n z30) (zb_f z30) (Nat.le_of_ble_eq_true rfl) rfl dX8_put_30 ?_
  refine q_aload_n g 0 0 rfl dX8_put_33 ?_
  refine q_get (C := RX8) (T := TX8) (N := 24) g 80 inX8 0 4 rfl rfl (by decide) wF_X8_80 rfl dX8_put_34 ?_
  refine q_if_ne g (23) 60 r_k1 (by decide) dX8_put_37 (fun b37 => ?_) (fun b37 => ?_)
  · replace h := h.1 b37
    refine q_lv (lv' := []) [] rfl ?_
    exact s_X8_put_60 g hR hX8 aX8_ups aX8_downs aX8_row m_found aX8_sumMany aX8_sumShares aX8_sumSet aX8_taken aX8_restUp aX8_restDown m_fewest m_wishes aX8_wished aX8_far aX8_queue m_divided aX8_divisors aX8_least m_pairOne m_pairTwo m_sumUp m_sumDown Q hF m_many m_row k1 r_m_many r_m_row r_k1 h
  replace h := h.2 b37
  refine q_aload_n g 0 0 rfl dX8_put_40 ?_
  refine q_get (C := RX8) (T := TX8) (N := 24) g 16 inX8 0 3 rfl rfl (by decide) wF_X8_16 rfl dX8_put_41 ?_
  refine q_aload_n g 0 0 rfl dX8_put_44 ?_
  refine q_get (C := RX8) (T := TX8) (N := 24) g 84 inX8 0 2 rfl rfl (by decide) wF_X8_84 rfl dX8_put_45 ?_
  refine q_lload_n g 1 1 rfl dX8_put_48 ?_
  obtain ⟨c49, h⟩ := h
  obtain ⟨e49, h⟩ := h
  refine q_last (ws' := [(hX8, .inr (7, [.ref aX8_ups, .ref aX8_downs, .int (i32 m_many), .ref aX8_row, .int (i32 k1), .int (i32 m_found), .ref aX8_sumMany, .ref aX8_sumShares, .ref aX8_sumSet, .ref aX8_taken, .ref aX8_restUp, .ref aX8_restDown, .int (i32 m_fewest), .int (i32 m_wishes), .ref aX8_wished, .ref aX8_far, .ref aX8_queue, .int (i32 m_divided), .ref aX8_divisors, .ref aX8_least, .long (i64 m_pairOne), .long (i64 m_pairTwo), .long (i64 m_sumUp), .long (i64 m_sumDown)])), (aX8_row, aL X.cJ 17 (ups m_row m_many l1))]) g 1 rfl c49 e49 (by decide) rfl dX8_put_49 ?_
  refine q_aload_n g 0 0 rfl dX8_put_50 ?_
  refine q_dup g rfl dX8_put_51 ?_
  refine q_get (C := RX8) (T := TX8) (N := 24) g 84 inX8 0 2 rfl rfl (by decide) wF_X8_84 rfl dX8_put_52 ?_
  refine q_iconst g (1) dX8_put_55 ?_
  obtain ⟨c56, h⟩ := h
  refine q_iadd g dX8_put_56 ?_
  refine q_topi c56 (fun x57 ex57 rx57 => ?_)
  replace h := h x57 ex57
  refine q_put (C := RX8) (T := TX8) (N := 24) (ty := .int) (ws' := [(hX8, .inr (7, [.ref aX8_ups, .ref aX8_downs, .int (i32 x57), .ref aX8_row, .int (i32 k1), .int (i32 m_found), .ref aX8_sumMany, .ref aX8_sumShares, .ref aX8_sumSet, .ref aX8_taken, .ref aX8_restUp, .ref aX8_restDown, .int (i32 m_fewest), .int (i32 m_wishes), .ref aX8_wished, .ref aX8_far, .ref aX8_queue, .int (i32 m_divided), .ref aX8_divisors, .ref aX8_least, .long (i64 m_pairOne), .long (i64 m_pairTwo), .long (i64 m_sumUp), .long (i64 m_sumDown)])), (aX8_row, aL X.cJ 17 (ups m_row m_many l1))]) g 84 inX8 tyX8_ok nmX8 0 2 rfl rfl (by decide) wF_X8_84 rfl rfl rfl rfl (Nat.le_of_ble_eq_true rfl) rfl dX8_put_57 ?_
  refine q_lv (lv' := []) [] rfl ?_
  exact s_X8_put_60 g hR hX8 aX8_ups aX8_downs aX8_row m_found aX8_sumMany aX8_sumShares aX8_sumSet aX8_taken aX8_restUp aX8_restDown m_fewest m_wishes aX8_wished aX8_far aX8_queue m_divided aX8_divisors aX8_least m_pairOne m_pairTwo m_sumUp m_sumDown Q hF x57 (ups m_row m_many l1) k1 rx57 (rr64_u r_m_row r_l1) r_k1 h
def wp_X8_put_25 (Q : Int → (Int → Int) → Int → Prop) (m_many : Int) (m_row : Int → Int) (m_isSpent : Int) (l1 : Int) : Prop := wp_X8_put_30 Q m_many m_row m_isSpent l1 1
set_option maxHeartbeats 4000000 in
set_option maxRecDepth 100000 in
theorem s_X8_put_25 {X : Cx} (g : Gd X cX8_put RX8 none 3) (hR : X.R = rmL 1 0 0) (hX8 : Nat) (aX8_ups : Nat) (aX8_downs : Nat) (aX8_row : Nat) (m_found : Int) (aX8_sumMany : Nat) (aX8_sumShares : Nat) (aX8_sumSet : Nat) (aX8_taken : Nat) (aX8_restUp : Nat) (aX8_restDown : Nat) (m_fewest : Int) (m_wishes : Int) (aX8_wished : Nat) (aX8_far : Nat) (aX8_queue : Nat) (m_divided : Int) (aX8_divisors : Nat) (aX8_least : Nat) (m_pairOne : Int) (m_pairTwo : Int) (m_sumUp : Int) (m_sumDown : Int) (Q : Int → (Int → Int) → Int → Prop) (hF : FQ X 0 0 (po_X8_put X.cI X.cJ hX8 aX8_ups aX8_downs aX8_row m_found aX8_sumMany aX8_sumShares aX8_sumSet aX8_taken aX8_restUp aX8_restDown m_fewest m_wishes aX8_wished aX8_far aX8_queue m_divided aX8_divisors aX8_least m_pairOne m_pairTwo m_sumUp m_sumDown Q)) : ∀ (m_many : Int) (m_row : Int → Int) (m_isSpent : Int) (l1 : Int), r32 m_many → rr64 m_row → r32 m_isSpent → r64 l1 → wp_X8_put_25 Q m_many m_row m_isSpent l1 → Wat X 0 0 25 [(0, .ref hX8), (1, .long (i64 l1))] [.ref hX8] [(hX8, .inr (7, [.ref aX8_ups, .ref aX8_downs, .int (i32 m_many), .ref aX8_row, .int (i32 m_isSpent), .int (i32 m_found), .ref aX8_sumMany, .ref aX8_sumShares, .ref aX8_sumSet, .ref aX8_taken, .ref aX8_restUp, .ref aX8_restDown, .int (i32 m_fewest), .int (i32 m_wishes), .ref aX8_wished, .ref aX8_far, .ref aX8_queue, .int (i32 m_divided), .ref aX8_divisors, .ref aX8_least, .long (i64 m_pairOne), .long (i64 m_pairTwo), .long (i64 m_sumUp), .long (i64 m_sumDown)])), (aX8_row, aL X.cJ 17 m_row)] := by
  intro m_many m_row m_isSpent l1 r_m_many r_m_row r_m_isSpent r_l1 h
  rw [wp_X8_put_25] at h
  refine q_iconst g (1) dX8_put_25 ?_
  refine q_goto g (4) 30 (by decide) dX8_put_26 ?_
  exact s_X8_put_30 g hR hX8 aX8_ups aX8_downs aX8_row m_found aX8_sumMany aX8_sumShares aX8_sumSet aX8_taken aX8_restUp aX8_restDown m_fewest m_wishes aX8_wished aX8_far aX8_queue m_divided aX8_divisors aX8_least m_pairOne m_pairTwo m_sumUp m_sumDown Q hF m_many m_row m_isSpent l1 1 r_m_many r_m_row r_m_isSpent r_l1 (r32_lit _ (by decide)) h
def wp_X8_put (Q : Int → (Int → Int) → Int → Prop) (m_many : Int) (m_row : Int → Int) (m_isSpent : Int) (l1 : Int) : Prop := ((¬ m_isSpent = 0 → wp_X8_put_25 Q m_many m_row m_isSpent l1) ∧
  (m_isSpent = 0 → ((m_many = 16 → wp_X8_put_25 Q m_many m_row m_isSpent l1) ∧
  (¬ (m_many = 16) → ((l1 ≤ 1000000000000 → wp_X8_put_30 Q m_many m_row m_isSpent l1 0) ∧
  (¬ (l1 ≤ 1000000000000) → wp_X8_put_25 Q m_many m_row m_isSpent l1))))))
set_option maxHeartbeats 4000000 in
set_option maxRecDepth 100000 in
theorem c_X8_put (l : Launch) (D : va_G) (cI cJ : ClassId) (zt : Nat) (hX8 : Nat) (aX8_ups : Nat) (aX8_downs : Nat) (m_many : Int) (aX8_row : Nat) (m_isSpent : Int) (m_found : Int) (aX8_sumMany : Nat) (aX8_sumShares : Nat) (aX8_sumSet : Nat) (aX8_taken : Nat) (aX8_restUp : Nat) (aX8_restDown : Nat) (m_fewest : Int) (m_wishes : Int) (aX8_wished : Nat) (aX8_far : Nat) (aX8_queue : Nat) (m_divided : Int) (aX8_divisors : Nat) (aX8_least : Nat) (m_pairOne : Int) (m_pairTwo : Int) (m_sumUp : Int) (m_sumDown : Int) (m_row : Int → Int) (l1 : Int) (Q : Int → (Int → Int) → Int → Prop) (r_m_many : r32 m_many) (r_m_row : rr64 m_row) (r_m_isSpent : r32 m_isSpent) (r_l1 : r64 l1) (h : wp_X8_put Q m_many m_row m_isSpent l1) : Ct l D cI cJ zt yX8_put cX8_put 3 none 1 0 0 [.ref hX8, .long (i64 l1)] [(hX8, .inr (7, [.ref aX8_ups, .ref aX8_downs, .int (i32 m_many), .ref aX8_row, .int (i32 m_isSpent), .int (i32 m_found), .ref aX8_sumMany, .ref aX8_sumShares, .ref aX8_sumSet, .ref aX8_taken, .ref aX8_restUp, .ref aX8_restDown, .int (i32 m_fewest), .int (i32 m_wishes), .ref aX8_wished, .ref aX8_far, .ref aX8_queue, .int (i32 m_divided), .ref aX8_divisors, .ref aX8_least, .long (i64 m_pairOne), .long (i64 m_pairTwo), .long (i64 m_sumUp), .long (i64 m_sumDown)])), (aX8_row, aL cJ 17 m_row)] (po_X8_put cI cJ hX8 aX8_ups aX8_downs aX8_row m_found aX8_sumMany aX8_sumShares aX8_sumSet aX8_taken aX8_restUp aX8_restDown m_fewest m_wishes aX8_wished aX8_far aX8_queue m_divided aX8_divisors aX8_least m_pairOne m_pairTwo m_sumUp m_sumDown Q) := by
  refine ct_of (by decide +kernel) (Nat.le_of_ble_eq_true rfl) (fun X hl hDD hcI hcJ hzt hR hF hnm g => ?_)
  subst hl; subst hDD; subst hcI; subst hcJ; subst hzt
  show Wat X 0 0 0 [(0, .ref hX8), (1, .long (i64 l1))] [] [(hX8, .inr (7, [.ref aX8_ups, .ref aX8_downs, .int (i32 m_many), .ref aX8_row, .int (i32 m_isSpent), .int (i32 m_found), .ref aX8_sumMany, .ref aX8_sumShares, .ref aX8_sumSet, .ref aX8_taken, .ref aX8_restUp, .ref aX8_restDown, .int (i32 m_fewest), .int (i32 m_wishes), .ref aX8_wished, .ref aX8_far, .ref aX8_queue, .int (i32 m_divided), .ref aX8_divisors, .ref aX8_least, .long (i64 m_pairOne), .long (i64 m_pairTwo), .long (i64 m_sumUp), .long (i64 m_sumDown)])), (aX8_row, aL X.cJ 17 m_row)]
  replace g : Gd X cX8_put RX8 none 3 := g
  rw [wp_X8_put] at h
  refine q_aload_n g 0 0 rfl dX8_put_0 ?_
  refine q_aload_n g 0 0 rfl dX8_put_1 ?_
  refine q_get (C := RX8) (T := TX8) (N := 24) g 80 inX8 0 4 rfl rfl (by decide) wF_X8_80 rfl dX8_put_2 ?_
  refine q_if_ne g (20) 25 r_m_isSpent (by decide) dX8_put_5 (fun b5 => ?_) (fun b5 => ?_)
  · replace h := h.1 b5
    exact s_X8_put_25 g hR hX8 aX8_ups aX8_downs aX8_row m_found aX8_sumMany aX8_sumShares aX8_sumSet aX8_taken aX8_restUp aX8_restDown m_fewest m_wishes aX8_wished aX8_far aX8_queue m_divided aX8_divisors aX8_least m_pairOne m_pairTwo m_sumUp m_sumDown Q hF m_many m_row m_isSpent l1 r_m_many r_m_row r_m_isSpent r_l1 h
  replace h := h.2 b5
  refine q_aload_n g 0 0 rfl dX8_put_8 ?_
  refine q_get (C := RX8) (T := TX8) (N := 24) g 84 inX8 0 2 rfl rfl (by decide) wF_X8_84 rfl dX8_put_9 ?_
  refine q_bipush g (16) (by decide) (by decide) dX8_put_12 ?_
  refine q_icmp_eq g (11) 25 r_m_many (r32_lit _ (by decide)) (by decide) dX8_put_14 (fun b14 => ?_) (fun b14 => ?_)
  · replace h := h.1 b14
    exact s_X8_put_25 g hR hX8 aX8_ups aX8_downs aX8_row m_found aX8_sumMany aX8_sumShares aX8_sumSet aX8_taken aX8_restUp aX8_restDown m_fewest m_wishes aX8_wished aX8_far aX8_queue m_divided aX8_divisors aX8_least m_pairOne m_pairTwo m_sumUp m_sumDown Q hF m_many m_row m_isSpent l1 r_m_many r_m_row r_m_isSpent r_l1 h
  replace h := h.2 b14
  refine q_lload_n g 1 1 rfl dX8_put_17 ?_
  refine q_ldc2 g 87 (1000000000000) rfl wL_X8_87 dX8_put_18 ?_
  refine q_lcmp_le g (7) 29 r_l1 (r64_lit _ (by decide)) (by decide) dX8_put_21 dX8_put_22 (fun b21 => ?_) (fun b21 => ?_)
  · replace h := h.1 b21
    refine q_iconst g (0) dX8_put_29 ?_
    exact s_X8_put_30 g hR hX8 aX8_ups aX8_downs aX8_row m_found aX8_sumMany aX8_sumShares aX8_sumSet aX8_taken aX8_restUp aX8_restDown m_fewest m_wishes aX8_wished aX8_far aX8_queue m_divided aX8_divisors aX8_least m_pairOne m_pairTwo m_sumUp m_sumDown Q hF m_many m_row m_isSpent l1 0 r_m_many r_m_row r_m_isSpent r_l1 (r32_lit _ (by decide)) h
  replace h := h.2 b21
  exact s_X8_put_25 g hR hX8 aX8_ups aX8_downs aX8_row m_found aX8_sumMany aX8_sumShares aX8_sumSet aX8_taken aX8_restUp aX8_restDown m_fewest m_wishes aX8_wished aX8_far aX8_queue m_divided aX8_divisors aX8_least m_pairOne m_pairTwo m_sumUp m_sumDown Q hF m_many m_row m_isSpent l1 r_m_many r_m_row r_m_isSpent r_l1 h
theorem dX8_gcd_0 : decode cX8_gcd 0 = .ok (.lload_n 0, 1) := by decide +kernel
theorem dX8_gcd_1 : decode cX8_gcd 1 = .ok (.lstore 4, 2) := by decide +kernel
theorem dX8_gcd_3 : decode cX8_gcd 3 = .ok (.lload_n 2, 1) := by decide +kernel
theorem dX8_gcd_4 : decode cX8_gcd 4 = .ok (.lstore 6, 2) := by decide +kernel
theorem dX8_gcd_6 : decode cX8_gcd 6 = .ok (.lload 6, 2) := by decide +kernel
theorem dX8_gcd_8 : decode cX8_gcd 8 = .ok (.lconst 0, 1) := by decide +kernel
theorem dX8_gcd_9 : decode cX8_gcd 9 = .ok (.lcmp, 1) := by decide +kernel
theorem dX8_gcd_10 : decode cX8_gcd 10 = .ok (.ifCond .eq 21, 3) := by decide +kernel
theorem dX8_gcd_13 : decode cX8_gcd 13 = .ok (.lload 4, 2) := by decide +kernel
theorem dX8_gcd_15 : decode cX8_gcd 15 = .ok (.lload 6, 2) := by decide +kernel
theorem dX8_gcd_17 : decode cX8_gcd 17 = .ok (.lrem, 1) := by decide +kernel
theorem dX8_gcd_18 : decode cX8_gcd 18 = .ok (.lstore 8, 2) := by decide +kernel
theorem dX8_gcd_20 : decode cX8_gcd 20 = .ok (.lload 6, 2) := by decide +kernel
theorem dX8_gcd_22 : decode cX8_gcd 22 = .ok (.lstore 4, 2) := by decide +kernel
theorem dX8_gcd_24 : decode cX8_gcd 24 = .ok (.lload 8, 2) := by decide +kernel
theorem dX8_gcd_26 : decode cX8_gcd 26 = .ok (.lstore 6, 2) := by decide +kernel
theorem dX8_gcd_28 : decode cX8_gcd 28 = .ok (.goto (-22), 3) := by decide +kernel
theorem dX8_gcd_31 : decode cX8_gcd 31 = .ok (.lload 4, 2) := by decide +kernel
theorem dX8_gcd_33 : decode cX8_gcd 33 = .ok (.lreturn, 1) := by decide +kernel
abbrev po_X8_gcd (cI cJ : ClassId) (Q : Int → Prop) : Option Value → va_W → Prop := fun rv w1 => ∃ (r0 : Int), rv = some (.long (i64 r0)) ∧ w1 = [] ∧ r64 r0 ∧ Q r0
def wp_X8_gcd_6 (Q : Int → Prop) : Nat → Int → Int → Prop
  | 0, _, _ => False
  | n + 1, l4, l6 => ((l6 = 0 → Q l4) ∧
  (¬ (l6 = 0) → (0 < l6 ∧ ∀ x18 : Int, x18 = (l4.tmod l6) → wp_X8_gcd_6 Q n l6 x18)))
set_option maxHeartbeats 4000000 in
set_option maxRecDepth 100000 in
theorem s_X8_gcd_6 {X : Cx} (g : Gd X cX8_gcd RX8 (some .long) 10) (hR : X.R = rmL 1 0 0) (Q : Int → Prop) (hF : FQ X 0 0 (po_X8_gcd X.cI X.cJ Q)) : ∀ (n : Nat) (l4 : Int) (l6 : Int), r64 l4 → r64 l6 → wp_X8_gcd_6 Q n l4 l6 → Wat X 0 0 6 [(4, .long (i64 l4)), (6, .long (i64 l6))] [] [] := by
  intro n
  induction n with
  | zero => intro l4 l6 r_l4 r_l6 h; exact False.elim h
  | succ n ih =>
    intro l4 l6 r_l4 r_l6 h
    rw [wp_X8_gcd_6] at h
    refine q_lload g 6 1 rfl dX8_gcd_6 ?_
    refine q_lconst g 0 0 rfl dX8_gcd_8 ?_
    refine q_lcmp_eq g (21) 31 r_l6 (r64_lit _ (by decide)) (by decide) dX8_gcd_9 dX8_gcd_10 (fun b9 => ?_) (fun b9 => ?_)
    · replace h := h.1 b9
      refine q_lload g 4 0 rfl dX8_gcd_31 ?_
      exact q_lret g hF ⟨l4, rfl, rfl, r_l4, h⟩ dX8_gcd_33
    replace h := h.2 b9
    refine q_lload g 4 0 rfl dX8_gcd_13 ?_
    refine q_lload g 6 1 rfl dX8_gcd_15 ?_
    obtain ⟨c17, h⟩ := h
    refine q_lrem g r_l4 r_l6 (ne_of_pos c17) dX8_gcd_17 ?_
    refine q_topl (r64_tmod r_l4 r_l6 (ne_of_pos c17)) (fun x18 ex18 rx18 => ?_)
    replace h := h x18 ex18
    refine q_lstore (lv' := [(8, .long (i64 x18)), (4, .long (i64 l4)), (6, .long (i64 l6))]) g 8   (by decide) rfl dX8_gcd_18 ?_
    refine q_lload g 6 2 rfl dX8_gcd_20 ?_
    refine q_lstore (lv' := [(4, .long (i64 l6)), (8, .long (i64 x18)), (6, .long (i64 l6))]) g 4   (by decide) rfl dX8_gcd_22 ?_
    refine q_lload g 8 1 rfl dX8_gcd_24 ?_
    refine q_lstore (lv' := [(6, .long (i64 x18)), (4, .long (i64 l6)), (8, .long (i64 x18))]) g 6   (by decide) rfl dX8_gcd_26 ?_
    refine q_goto g (-22) 6 (by decide) dX8_gcd_28 ?_
    refine q_lv (lv' := [(4, .long (i64 l6)), (6, .long (i64 x18))]) [1, 0] rfl ?_
    exact ih l6 x18 r_l6 rx18 h
def wp_X8_gcd (Q : Int → Prop) (l0 : Int) (l2 : Int) : Prop := (∃ n0 : Nat, wp_X8_gcd_6 Q n0 l0 l2)
set_option maxHeartbeats 4000000 in
set_option maxRecDepth 100000 in
theorem c_X8_gcd (l : Launch) (D : va_G) (cI cJ : ClassId) (zt : Nat) (l0 : Int) (l2 : Int) (Q : Int → Prop) (r_l0 : r64 l0) (r_l2 : r64 l2) (h : wp_X8_gcd Q l0 l2) : Ct l D cI cJ zt yX8_gcd cX8_gcd 10 (some .long) 1 0 0 [.long (i64 l0), .long (i64 l2)] [] (po_X8_gcd cI cJ Q) := by
  refine ct_of (by decide +kernel) (Nat.le_of_ble_eq_true rfl) (fun X hl hDD hcI hcJ hzt hR hF hnm g => ?_)
  subst hl; subst hDD; subst hcI; subst hcJ; subst hzt
  show Wat X 0 0 0 [(0, .long (i64 l0)), (2, .long (i64 l2))] [] []
  replace g : Gd X cX8_gcd RX8 (some .long) 10 := g
  rw [wp_X8_gcd] at h
  refine q_lload_n g 0 0 rfl dX8_gcd_0 ?_
  refine q_lstore (lv' := [(4, .long (i64 l0)), (0, .long (i64 l0)), (2, .long (i64 l2))]) g 4   (by decide) rfl dX8_gcd_1 ?_
  refine q_lload_n g 2 2 rfl dX8_gcd_3 ?_
  refine q_lstore (lv' := [(6, .long (i64 l2)), (4, .long (i64 l0)), (0, .long (i64 l0)), (2, .long (i64 l2))]) g 6   (by decide) rfl dX8_gcd_4 ?_
  refine q_lv (lv' := [(4, .long (i64 l0)), (6, .long (i64 l2))]) [1, 0] rfl ?_
  obtain ⟨n0, h⟩ := h
  exact s_X8_gcd_6 g hR Q hF n0 l0 l2 r_l0 r_l2 h
theorem dX8_has_0 : decode cX8_has 0 = .ok (.iconst 0, 1) := by decide +kernel
theorem dX8_has_1 : decode cX8_has 1 = .ok (.istore_n 3, 1) := by decide +kernel
theorem dX8_has_2 : decode cX8_has 2 = .ok (.iconst 0, 1) := by decide +kernel
theorem dX8_has_3 : decode cX8_has 3 = .ok (.istore 4, 2) := by decide +kernel
theorem dX8_has_5 : decode cX8_has 5 = .ok (.iload 4, 2) := by decide +kernel
theorem dX8_has_7 : decode cX8_has 7 = .ok (.aload_n 0, 1) := by decide +kernel
theorem dX8_has_8 : decode cX8_has 8 = .ok (.getfield 84, 3) := by decide +kernel
theorem dX8_has_11 : decode cX8_has 11 = .ok (.if_icmp .ge 31, 3) := by decide +kernel
theorem dX8_has_14 : decode cX8_has 14 = .ok (.iload_n 3, 1) := by decide +kernel
theorem dX8_has_15 : decode cX8_has 15 = .ok (.ifCond .ne 15, 3) := by decide +kernel
theorem dX8_has_18 : decode cX8_has 18 = .ok (.aload_n 0, 1) := by decide +kernel
theorem dX8_has_19 : decode cX8_has 19 = .ok (.getfield 16, 3) := by decide +kernel
theorem dX8_has_22 : decode cX8_has 22 = .ok (.iload 4, 2) := by decide +kernel
theorem dX8_has_24 : decode cX8_has 24 = .ok (.laload, 1) := by decide +kernel
theorem dX8_has_25 : decode cX8_has 25 = .ok (.lload_n 1, 1) := by decide +kernel
theorem dX8_has_26 : decode cX8_has 26 = .ok (.lcmp, 1) := by decide +kernel
theorem dX8_has_27 : decode cX8_has 27 = .ok (.ifCond .ne 7, 3) := by decide +kernel
theorem dX8_has_30 : decode cX8_has 30 = .ok (.iconst 1, 1) := by decide +kernel
theorem dX8_has_31 : decode cX8_has 31 = .ok (.goto 4, 3) := by decide +kernel
theorem dX8_has_34 : decode cX8_has 34 = .ok (.iconst 0, 1) := by decide +kernel
theorem dX8_has_35 : decode cX8_has 35 = .ok (.istore_n 3, 1) := by decide +kernel
theorem dX8_has_36 : decode cX8_has 36 = .ok (.iinc 4 1, 3) := by decide +kernel
theorem dX8_has_39 : decode cX8_has 39 = .ok (.goto (-34), 3) := by decide +kernel
theorem dX8_has_42 : decode cX8_has 42 = .ok (.iload_n 3, 1) := by decide +kernel
theorem dX8_has_43 : decode cX8_has 43 = .ok (.ireturn, 1) := by decide +kernel
abbrev po_X8_has (cI cJ : ClassId) (hX8 : Nat) (aX8_ups : Nat) (aX8_downs : Nat) (m_many : Int) (aX8_row : Nat) (m_isSpent : Int) (m_found : Int) (aX8_sumMany : Nat) (aX8_sumShares : Nat) (aX8_sumSet : Nat) (aX8_taken : Nat) (aX8_restUp : Nat) (aX8_restDown : Nat) (m_fewest : Int) (m_wishes : Int) (aX8_wished : Nat) (aX8_far : Nat) (aX8_queue : Nat) (m_divided : Int) (aX8_divisors : Nat) (aX8_least : Nat) (m_pairOne : Int) (m_pairTwo : Int) (m_sumUp : Int) (m_sumDown : Int) (m_row : Int → Int) (Q : Int → Prop) : Option Value → va_W → Prop := fun rv w1 => ∃ (r0 : Int), rv = some (.int (i32 r0)) ∧ w1 = [(hX8, .inr (7, [.ref aX8_ups, .ref aX8_downs, .int (i32 m_many), .ref aX8_row, .int (i32 m_isSpent), .int (i32 m_found), .ref aX8_sumMany, .ref aX8_sumShares, .ref aX8_sumSet, .ref aX8_taken, .ref aX8_restUp, .ref aX8_restDown, .int (i32 m_fewest), .int (i32 m_wishes), .ref aX8_wished, .ref aX8_far, .ref aX8_queue, .int (i32 m_divided), .ref aX8_divisors, .ref aX8_least, .long (i64 m_pairOne), .long (i64 m_pairTwo), .long (i64 m_sumUp), .long (i64 m_sumDown)])), (aX8_row, aL cJ 17 m_row)] ∧ r32 r0 ∧ Q r0
def wp_X8_has_35 (Q : Int → Prop) (m_many : Int) (m_row : Int → Int) (K_5 : Int → Int → Int → Prop) (l1 : Int) (l4 : Int) (k0 : Int) : Prop := (r32 (l4 + 1) ∧ K_5 l1 k0 (l4 + 1))
set_option maxHeartbeats 4000000 in
set_option maxRecDepth 100000 in
theorem s_X8_has_35 {X : Cx} (g : Gd X cX8_has RX8 (some .boolean) 5) (hR : X.R = rmL 1 0 0) (hX8 : Nat) (aX8_ups : Nat) (aX8_downs : Nat) (aX8_row : Nat) (m_isSpent : Int) (m_found : Int) (aX8_sumMany : Nat) (aX8_sumShares : Nat) (aX8_sumSet : Nat) (aX8_taken : Nat) (aX8_restUp : Nat) (aX8_restDown : Nat) (m_fewest : Int) (m_wishes : Int) (aX8_wished : Nat) (aX8_far : Nat) (aX8_queue : Nat) (m_divided : Int) (aX8_divisors : Nat) (aX8_least : Nat) (m_pairOne : Int) (m_pairTwo : Int) (m_sumUp : Int) (m_sumDown : Int) (m_many : Int) (m_row : Int → Int) (r_m_many : r32 m_many) (r_m_row : rr64 m_row) (Q : Int → Prop) (hF : FQ X 0 0 (po_X8_has X.cI X.cJ hX8 aX8_ups aX8_downs m_many aX8_row m_isSpent m_found aX8_sumMany aX8_sumShares aX8_sumSet aX8_taken aX8_restUp aX8_restDown m_fewest m_wishes aX8_wished aX8_far aX8_queue m_divided aX8_divisors aX8_least m_pairOne m_pairTwo m_sumUp m_sumDown m_row Q)) (K_5 : Int → Int → Int → Prop) (hK_5 : ∀ (l1 : Int) (l3 : Int) (l4 : Int), r64 l1 → r32 l3 → r32 l4 → K_5 l1 l3 l4 → Wat X 0 0 5 [(0, .ref hX8), (1, .long (i64 l1)), (3, .int (i32 l3)), (4, .int (i32 l4))] [] [(hX8, .inr (7, [.ref aX8_ups, .ref aX8_downs, .int (i32 m_many), .ref aX8_row, .int (i32 m_isSpent), .int (i32 m_found), .ref aX8_sumMany, .ref aX8_sumShares, .ref aX8_sumSet, .ref aX8_taken, .ref aX8_restUp, .ref aX8_restDown, .int (i32 m_fewest), .int (i32 m_wishes), .ref aX8_wished, .ref aX8_far, .ref aX8_queue, .int (i32 m_divided), .ref aX8_divisors, .ref aX8_least, .long (i64 m_pairOne), .long (i64 m_pairTwo), .long (i64 m_sumUp), .long (i64 m_sumDown)])), (aX8_row, aL X.cJ 17 m_row)]) : ∀ (l1 : Int) (l4 : Int) (k0 : Int), r64 l1 → r32 l4 → r32 k0 → wp_X8_has_35 Q m_many m_row K_5 l1 l4 k0 → Wat X 0 0 35 [(0, .ref hX8), (1, .long (i64 l1)), (4, .int (i32 l4))] [.int (i32 k0)] [(hX8, .inr (7, [.ref aX8_ups, .ref aX8_downs, .int (i32 m_many), .ref aX8_row, .int (i32 m_isSpent), .int (i32 m_found), .ref aX8_sumMany, .ref aX8_sumShares, .ref aX8_sumSet, .ref aX8_taken, .ref aX8_restUp, .ref aX8_restDown, .int (i32 m_fewest), .int (i32 m_wishes), .ref aX8_wished, .ref aX8_far, .ref aX8_queue, .int (i32 m_divided), .ref aX8_divisors, .ref aX8_least, .long (i64 m_pairOne), .long (i64 m_pairTwo), .long (i64 m_sumUp), .long (i64 m_sumDown)])), (aX8_row, aL X.cJ 17 m_row)] := by
  intro l1 l4 k0 r_l1 r_l4 r_k0 h
  rw [wp_X8_has_35] at h
  refine q_istore_n (lv' := [(3, .int (i32 k0)), (0, .ref hX8), (1, .long (i64 l1)), (4, .int (i32 l4))]) g 3 3 rfl (by decide) rfl dX8_has_35 ?_
  obtain ⟨c36, h⟩ := h
  refine q_iinc (lv' := [(4, .int (i32 (l4 + 1))), (3, .int (i32 k0)), (0, .ref hX8), (1, .long (i64 l1))]) g 4 3 1 (by decide) rfl rfl dX8_has_36 ?_
  refine q_goto g (-34) 5 (by decide) dX8_has_39 ?_
  refine q_lv (lv' := [(0, .ref hX8), (1, .long (i64 l1)), (3, .int (i32 k0)), (4, .int (i32 (l4 + 1)))]) [2, 3, 1, 0] rfl ?_
  exact hK_5 l1 k0 (l4 + 1) r_l1 r_k0 c36 h
def wp_X8_has_30 (Q : Int → Prop) (m_many : Int) (m_row : Int → Int) (K_5 : Int → Int → Int → Prop) (l1 : Int) (l4 : Int) : Prop := wp_X8_has_35 Q m_many m_row K_5 l1 l4 1
set_option maxHeartbeats 4000000 in
set_option maxRecDepth 100000 in
theorem s_X8_has_30 {X : Cx} (g : Gd X cX8_has RX8 (some .boolean) 5) (hR : X.R = rmL 1 0 0) (hX8 : Nat) (aX8_ups : Nat) (aX8_downs : Nat) (aX8_row : Nat) (m_isSpent : Int) (m_found : Int) (aX8_sumMany : Nat) (aX8_sumShares : Nat) (aX8_sumSet : Nat) (aX8_taken : Nat) (aX8_restUp : Nat) (aX8_restDown : Nat) (m_fewest : Int) (m_wishes : Int) (aX8_wished : Nat) (aX8_far : Nat) (aX8_queue : Nat) (m_divided : Int) (aX8_divisors : Nat) (aX8_least : Nat) (m_pairOne : Int) (m_pairTwo : Int) (m_sumUp : Int) (m_sumDown : Int) (m_many : Int) (m_row : Int → Int) (r_m_many : r32 m_many) (r_m_row : rr64 m_row) (Q : Int → Prop) (hF : FQ X 0 0 (po_X8_has X.cI X.cJ hX8 aX8_ups aX8_downs m_many aX8_row m_isSpent m_found aX8_sumMany aX8_sumShares aX8_sumSet aX8_taken aX8_restUp aX8_restDown m_fewest m_wishes aX8_wished aX8_far aX8_queue m_divided aX8_divisors aX8_least m_pairOne m_pairTwo m_sumUp m_sumDown m_row Q)) (K_5 : Int → Int → Int → Prop) (hK_5 : ∀ (l1 : Int) (l3 : Int) (l4 : Int), r64 l1 → r32 l3 → r32 l4 → K_5 l1 l3 l4 → Wat X 0 0 5 [(0, .ref hX8), (1, .long (i64 l1)), (3, .int (i32 l3)), (4, .int (i32 l4))] [] [(hX8, .inr (7, [.ref aX8_ups, .ref aX8_downs, .int (i32 m_many), .ref aX8_row, .int (i32 m_isSpent), .int (i32 m_found), .ref aX8_sumMany, .ref aX8_sumShares, .ref aX8_sumSet, .ref aX8_taken, .ref aX8_restUp, .ref aX8_restDown, .int (i32 m_fewest), .int (i32 m_wishes), .ref aX8_wished, .ref aX8_far, .ref aX8_queue, .int (i32 m_divided), .ref aX8_divisors, .ref aX8_least, .long (i64 m_pairOne), .long (i64 m_pairTwo), .long (i64 m_sumUp), .long (i64 m_sumDown)])), (aX8_row, aL X.cJ 17 m_row)]) : ∀ (l1 : Int) (l4 : Int), r64 l1 → r32 l4 → wp_X8_has_30 Q m_many m_row K_5 l1 l4 → Wat X 0 0 30 [(0, .ref hX8), (1, .long (i64 l1)), (4, .int (i32 l4))] [] [(hX8, .inr (7, [.ref aX8_ups, .ref aX8_downs, .int (i32 m_many), .ref aX8_row, .int (i32 m_isSpent), .int (i32 m_found), .ref aX8_sumMany, .ref aX8_sumShares, .ref aX8_sumSet, .ref aX8_taken, .ref aX8_restUp, .ref aX8_restDown, .int (i32 m_fewest), .int (i32 m_wishes), .ref aX8_wished, .ref aX8_far, .ref aX8_queue, .int (i32 m_divided), .ref aX8_divisors, .ref aX8_least, .long (i64 m_pairOne), .long (i64 m_pairTwo), .long (i64 m_sumUp), .long (i64 m_sumDown)])), (aX8_row, aL X.cJ 17 m_row)] := by
  intro l1 l4 r_l1 r_l4 h
  rw [wp_X8_has_30] at h
  refine q_iconst g (1) dX8_has_30 ?_
  refine q_goto g (4) 35 (by decide) dX8_has_31 ?_
  exact s_X8_has_35 g hR hX8 aX8_ups aX8_downs aX8_row m_isSpent m_found aX8_sumMany aX8_sumShares aX8_sumSet aX8_taken aX8_restUp aX8_restDown m_fewest m_wishes aX8_wished aX8_far aX8_queue m_divided aX8_divisors aX8_least m_pairOne m_pairTwo m_sumUp m_sumDown m_many m_row r_m_many r_m_row Q hF K_5 hK_5 l1 l4 1 r_l1 r_l4 (r32_lit _ (by decide)) h
def wp_X8_has_5 (Q : Int → Prop) (m_many : Int) (m_row : Int → Int) : Nat → Int → Int → Int → Prop
  | 0, _, _, _ => False
  | n + 1, l1, l3, l4 => ((m_many ≤ l4 → ((l3 = 0 ∨ l3 = 1) ∧ Q l3)) ∧
  (¬ (m_many ≤ l4) → ((¬ l3 = 0 → wp_X8_has_30 Q m_many m_row (wp_X8_has_5 Q m_many m_row n) l1 l4) ∧
  (l3 = 0 → (0 ≤ l4 ∧ l4 < 17 ∧ ((¬ (m_row l4) = l1 → wp_X8_has_35 Q m_many m_row (wp_X8_has_5 Q m_many m_row n) l1 l4 0) ∧
  ((m_row l4) = l1 → wp_X8_has_30 Q m_many m_row (wp_X8_has_5 Q m_many m_row n) l1 l4)))))))
set_option maxHeartbeats 4000000 in
set_option maxRecDepth 100000 in
theorem s_X8_has_5 {X : Cx} (g : Gd X cX8_has RX8 (some .boolean) 5) (hR : X.R = rmL 1 0 0) (hX8 : Nat) (aX8_ups : Nat) (aX8_downs : Nat) (aX8_row : Nat) (m_isSpent : Int) (m_found : Int) (aX8_sumMany : Nat) (aX8_sumShares : Nat) (aX8_sumSet : Nat) (aX8_taken : Nat) (aX8_restUp : Nat) (aX8_restDown : Nat) (m_fewest : Int) (m_wishes : Int) (aX8_wished : Nat) (aX8_far : Nat) (aX8_queue : Nat) (m_divided : Int) (aX8_divisors : Nat) (aX8_least : Nat) (m_pairOne : Int) (m_pairTwo : Int) (m_sumUp : Int) (m_sumDown : Int) (m_many : Int) (m_row : Int → Int) (r_m_many : r32 m_many) (r_m_row : rr64 m_row) (Q : Int → Prop) (hF : FQ X 0 0 (po_X8_has X.cI X.cJ hX8 aX8_ups aX8_downs m_many aX8_row m_isSpent m_found aX8_sumMany aX8_sumShares aX8_sumSet aX8_taken aX8_restUp aX8_restDown m_fewest m_wishes aX8_wished aX8_far aX8_queue m_divided aX8_divisors aX8_least m_pairOne m_pairTwo m_sumUp m_sumDown m_row Q)) : ∀ (n : Nat) (l1 : Int) (l3 : Int) (l4 : Int), r64 l1 → r32 l3 → r32 l4 → wp_X8_has_5 Q m_many m_row n l1 l3 l4 → Wat X 0 0 5 [(0, .ref hX8), (1, .long (i64 l1)), (3, .int (i32 l3)), (4, .int (i32 l4))] [] [(hX8, .inr (7, [.ref aX8_ups, .ref aX8_downs, .int (i32 m_many), .ref aX8_row, .int (i32 m_isSpent), .int (i32 m_found), .ref aX8_sumMany, .ref aX8_sumShares, .ref aX8_sumSet, .ref aX8_taken, .ref aX8_restUp, .ref aX8_restDown, .int (i32 m_fewest), .int (i32 m_wishes), .ref aX8_wished, .ref aX8_far, .ref aX8_queue, .int (i32 m_divided), .ref aX8_divisors, .ref aX8_least, .long (i64 m_pairOne), .long (i64 m_pairTwo), .long (i64 m_sumUp), .long (i64 m_sumDown)])), (aX8_row, aL X.cJ 17 m_row)] := by
  intro n
  induction n with
  | zero => intro l1 l3 l4 r_l1 r_l3 r_l4 h; exact False.elim h
  | succ n ih =>
    intro l1 l3 l4 r_l1 r_l3 r_l4 h
    rw [wp_X8_has_5] at h
    refine q_iload g 4 3 rfl dX8_has_5 ?_
    refine q_aload_n g 0 0 rfl dX8_has_7 ?_
    refine q_get (C := RX8) (T := TX8) (N := 24) g 84 inX8 0 2 rfl rfl (by decide) wF_X8_84 rfl dX8_has_8 ?_
    refine q_icmp_ge g (31) 42 r_l4 r_m_many (by decide) dX8_has_11 (fun b11 => ?_) (fun b11 => ?_)
    · replace h := h.1 b11
      refine q_iload_n g 3 2 rfl dX8_has_42 ?_
      obtain ⟨z43, h⟩ := h
      exact q_zret g hF z43 ⟨l3, rfl, rfl, r_l3, h⟩ dX8_has_43
    replace h := h.2 b11
    refine q_iload_n g 3 2 rfl dX8_has_14 ?_
    refine q_if_ne g (15) 30 r_l3 (by decide) dX8_has_15 (fun b15 => ?_) (fun b15 => ?_)
    · replace h := h.1 b15
      refine q_lv (lv' := [(0, .ref hX8), (1, .long (i64 l1)), (4, .int (i32 l4))]) [0, 1, 3] rfl ?_
      exact s_X8_has_30 g hR hX8 aX8_ups aX8_downs aX8_row m_isSpent m_found aX8_sumMany aX8_sumShares aX8_sumSet aX8_taken aX8_restUp aX8_restDown m_fewest m_wishes aX8_wished aX8_far aX8_queue m_divided aX8_divisors aX8_least m_pairOne m_pairTwo m_sumUp m_sumDown m_many m_row r_m_many r_m_row Q hF (wp_X8_has_5 Q m_many m_row n) (fun v0 v1 v2 w0 w1 w2 hh => ih v0 v1 v2 w0 w1 w2 hh) l1 l4 r_l1 r_l4 h
    replace h := h.2 b15
    refine q_aload_n g 0 0 rfl dX8_has_18 ?_
    refine q_get (C := RX8) (T := TX8) (N := 24) g 16 inX8 0 3 rfl rfl (by decide) wF_X8_16 rfl dX8_has_19 ?_
    refine q_iload g 4 3 rfl dX8_has_22 ?_
    obtain ⟨c24, h⟩ := h
    obtain ⟨e24, h⟩ := h
    refine q_lald g 1 rfl c24 e24 (by decide) dX8_has_24 ?_
    refine q_lload_n g 1 1 rfl dX8_has_25 ?_
    refine q_lcmp_ne g (7) 34 (r_m_row _) r_l1 (by decide) dX8_has_26 dX8_has_27 (fun b26 => ?_) (fun b26 => ?_)
    · replace h := h.1 b26
      refine q_iconst g (0) dX8_has_34 ?_
      refine q_lv (lv' := [(0, .ref hX8), (1, .long (i64 l1)), (4, .int (i32 l4))]) [0, 1, 3] rfl ?_
      exact s_X8_has_35 g hR hX8 aX8_ups aX8_downs aX8_row m_isSpent m_found aX8_sumMany aX8_sumShares aX8_sumSet aX8_taken aX8_restUp aX8_restDown m_fewest m_wishes aX8_wished aX8_far aX8_queue m_divided aX8_divisors aX8_least m_pairOne m_pairTwo m_sumUp m_sumDown m_many m_row r_m_many r_m_row Q hF (wp_X8_has_5 Q m_many m_row n) (fun v0 v1 v2 w0 w1 w2 hh => ih v0 v1 v2 w0 w1 w2 hh) l1 l4 0 r_l1 r_l4 (r32_lit _ (by decide)) h
    replace h := h.2 b26
    refine q_lv (lv' := [(0, .ref hX8), (1, .long (i64 l1)), (4, .int (i32 l4))]) [0, 1, 3] rfl ?_
    exact s_X8_has_30 g hR hX8 aX8_ups aX8_downs aX8_row m_isSpent m_found aX8_sumMany aX8_sumShares aX8_sumSet aX8_taken aX8_restUp aX8_restDown m_fewest m_wishes aX8_wished aX8_far aX8_queue m_divided aX8_divisors aX8_least m_pairOne m_pairTwo m_sumUp m_sumDown m_many m_row r_m_many r_m_row Q hF (wp_X8_has_5 Q m_many m_row n) (fun v0 v1 v2 w0 w1 w2 hh => ih v0 v1 v2 w0 w1 w2 hh) l1 l4 r_l1 r_l4 h
def wp_X8_has (Q : Int → Prop) (m_many : Int) (m_row : Int → Int) (l1 : Int) : Prop := (∃ n0 : Nat, wp_X8_has_5 Q m_many m_row n0 l1 0 0)
set_option maxHeartbeats 4000000 in
set_option maxRecDepth 100000 in
theorem c_X8_has (l : Launch) (D : va_G) (cI cJ : ClassId) (zt : Nat) (hX8 : Nat) (aX8_ups : Nat) (aX8_downs : Nat) (m_many : Int) (aX8_row : Nat) (m_isSpent : Int) (m_found : Int) (aX8_sumMany : Nat) (aX8_sumShares : Nat) (aX8_sumSet : Nat) (aX8_taken : Nat) (aX8_restUp : Nat) (aX8_restDown : Nat) (m_fewest : Int) (m_wishes : Int) (aX8_wished : Nat) (aX8_far : Nat) (aX8_queue : Nat) (m_divided : Int) (aX8_divisors : Nat) (aX8_least : Nat) (m_pairOne : Int) (m_pairTwo : Int) (m_sumUp : Int) (m_sumDown : Int) (m_row : Int → Int) (l1 : Int) (Q : Int → Prop) (r_m_many : r32 m_many) (r_m_row : rr64 m_row) (r_l1 : r64 l1) (h : wp_X8_has Q m_many m_row l1) : Ct l D cI cJ zt yX8_has cX8_has 5 (some .boolean) 1 0 0 [.ref hX8, .long (i64 l1)] [(hX8, .inr (7, [.ref aX8_ups, .ref aX8_downs, .int (i32 m_many), .ref aX8_row, .int (i32 m_isSpent), .int (i32 m_found), .ref aX8_sumMany, .ref aX8_sumShares, .ref aX8_sumSet, .ref aX8_taken, .ref aX8_restUp, .ref aX8_restDown, .int (i32 m_fewest), .int (i32 m_wishes), .ref aX8_wished, .ref aX8_far, .ref aX8_queue, .int (i32 m_divided), .ref aX8_divisors, .ref aX8_least, .long (i64 m_pairOne), .long (i64 m_pairTwo), .long (i64 m_sumUp), .long (i64 m_sumDown)])), (aX8_row, aL cJ 17 m_row)] (po_X8_has cI cJ hX8 aX8_ups aX8_downs m_many aX8_row m_isSpent m_found aX8_sumMany aX8_sumShares aX8_sumSet aX8_taken aX8_restUp aX8_restDown m_fewest m_wishes aX8_wished aX8_far aX8_queue m_divided aX8_divisors aX8_least m_pairOne m_pairTwo m_sumUp m_sumDown m_row Q) := by
  refine ct_of (by decide +kernel) (Nat.le_of_ble_eq_true rfl) (fun X hl hDD hcI hcJ hzt hR hF hnm g => ?_)
  subst hl; subst hDD; subst hcI; subst hcJ; subst hzt
  show Wat X 0 0 0 [(0, .ref hX8), (1, .long (i64 l1))] [] [(hX8, .inr (7, [.ref aX8_ups, .ref aX8_downs, .int (i32 m_many), .ref aX8_row, .int (i32 m_isSpent), .int (i32 m_found), .ref aX8_sumMany, .ref aX8_sumShares, .ref aX8_sumSet, .ref aX8_taken, .ref aX8_restUp, .ref aX8_restDown, .int (i32 m_fewest), .int (i32 m_wishes), .ref aX8_wished, .ref aX8_far, .ref aX8_queue, .int (i32 m_divided), .ref aX8_divisors, .ref aX8_least, .long (i64 m_pairOne), .long (i64 m_pairTwo), .long (i64 m_sumUp), .long (i64 m_sumDown)])), (aX8_row, aL X.cJ 17 m_row)]
  replace g : Gd X cX8_has RX8 (some .boolean) 5 := g
  rw [wp_X8_has] at h
  refine q_iconst g (0) dX8_has_0 ?_
  refine q_istore_n (lv' := [(3, .int (i32 0)), (0, .ref hX8), (1, .long (i64 l1))]) g 3 3 rfl (by decide) rfl dX8_has_1 ?_
  refine q_iconst g (0) dX8_has_2 ?_
  refine q_istore (lv' := [(4, .int (i32 0)), (3, .int (i32 0)), (0, .ref hX8), (1, .long (i64 l1))]) g 4   (by decide) rfl dX8_has_3 ?_
  refine q_lv (lv' := [(0, .ref hX8), (1, .long (i64 l1)), (3, .int (i32 0)), (4, .int (i32 0))]) [2, 3, 1, 0] rfl ?_
  obtain ⟨n0, h⟩ := h
  exact s_X8_has_5 g hR hX8 aX8_ups aX8_downs aX8_row m_isSpent m_found aX8_sumMany aX8_sumShares aX8_sumSet aX8_taken aX8_restUp aX8_restDown m_fewest m_wishes aX8_wished aX8_far aX8_queue m_divided aX8_divisors aX8_least m_pairOne m_pairTwo m_sumUp m_sumDown m_many m_row r_m_many r_m_row Q hF n0 l1 0 0 r_l1 (r32_lit _ (by decide)) (r32_lit _ (by decide)) h
theorem dX8_keep_0 : decode cX8_keep 0 = .ok (.lload_n 2, 1) := by decide +kernel
theorem dX8_keep_1 : decode cX8_keep 1 = .ok (.lload 4, 2) := by decide +kernel
theorem dX8_keep_3 : decode cX8_keep 3 = .ok (.invokestatic 64, 3) := by decide +kernel
theorem dX8_keep_6 : decode cX8_keep 6 = .ok (.lstore 6, 2) := by decide +kernel
theorem dX8_keep_8 : decode cX8_keep 8 = .ok (.aload_n 0, 1) := by decide +kernel
theorem dX8_keep_9 : decode cX8_keep 9 = .ok (.getfield 7, 3) := by decide +kernel
theorem dX8_keep_12 : decode cX8_keep 12 = .ok (.iload_n 1, 1) := by decide +kernel
theorem dX8_keep_13 : decode cX8_keep 13 = .ok (.lload_n 2, 1) := by decide +kernel
theorem dX8_keep_14 : decode cX8_keep 14 = .ok (.lload 6, 2) := by decide +kernel
theorem dX8_keep_16 : decode cX8_keep 16 = .ok (.ldiv, 1) := by decide +kernel
theorem dX8_keep_17 : decode cX8_keep 17 = .ok (.l2i, 1) := by decide +kernel
theorem dX8_keep_18 : decode cX8_keep 18 = .ok (.iastore, 1) := by decide +kernel
theorem dX8_keep_19 : decode cX8_keep 19 = .ok (.aload_n 0, 1) := by decide +kernel
theorem dX8_keep_20 : decode cX8_keep 20 = .ok (.getfield 13, 3) := by decide +kernel
theorem dX8_keep_23 : decode cX8_keep 23 = .ok (.iload_n 1, 1) := by decide +kernel
theorem dX8_keep_24 : decode cX8_keep 24 = .ok (.lload 4, 2) := by decide +kernel
theorem dX8_keep_26 : decode cX8_keep 26 = .ok (.lload 6, 2) := by decide +kernel
theorem dX8_keep_28 : decode cX8_keep 28 = .ok (.ldiv, 1) := by decide +kernel
theorem dX8_keep_29 : decode cX8_keep 29 = .ok (.l2i, 1) := by decide +kernel
theorem dX8_keep_30 : decode cX8_keep 30 = .ok (.iastore, 1) := by decide +kernel
theorem dX8_keep_31 : decode cX8_keep 31 = .ok (.return_, 1) := by decide +kernel
abbrev po_X8_keep (cI cJ : ClassId) (hX8 : Nat) (aX8_ups : Nat) (aX8_downs : Nat) (m_many : Int) (aX8_row : Nat) (m_isSpent : Int) (m_found : Int) (aX8_sumMany : Nat) (aX8_sumShares : Nat) (aX8_sumSet : Nat) (aX8_taken : Nat) (aX8_restUp : Nat) (aX8_restDown : Nat) (m_fewest : Int) (m_wishes : Int) (aX8_wished : Nat) (aX8_far : Nat) (aX8_queue : Nat) (m_divided : Int) (aX8_divisors : Nat) (aX8_least : Nat) (m_pairOne : Int) (m_pairTwo : Int) (m_sumUp : Int) (m_sumDown : Int) (Q : (Int → Int) → (Int → Int) → Prop) : Option Value → va_W → Prop := fun rv w1 => ∃ (m_ups : Int → Int) (m_downs : Int → Int), rv = none ∧ w1 = [(hX8, .inr (7, [.ref aX8_ups, .ref aX8_downs, .int (i32 m_many), .ref aX8_row, .int (i32 m_isSpent), .int (i32 m_found), .ref aX8_sumMany, .ref aX8_sumShares, .ref aX8_sumSet, .ref aX8_taken, .ref aX8_restUp, .ref aX8_restDown, .int (i32 m_fewest), .int (i32 m_wishes), .ref aX8_wished, .ref aX8_far, .ref aX8_queue, .int (i32 m_divided), .ref aX8_divisors, .ref aX8_least, .long (i64 m_pairOne), .long (i64 m_pairTwo), .long (i64 m_sumUp), .long (i64 m_sumDown)])), (aX8_ups, aI cI 8 m_ups), (aX8_downs, aI cI 8 m_downs)] ∧ rr32 m_ups ∧ rr32 m_downs ∧ Q m_ups m_downs
def wp_X8_keep (Q : (Int → Int) → (Int → Int) → Prop) (m_ups : Int → Int) (m_downs : Int → Int) (l1 : Int) (l2 : Int) (l4 : Int) : Prop := wp_X8_gcd (fun (x3 : Int) => (0 < x3 ∧ r32 (l2.tdiv x3) ∧ ∀ x18 : Int, x18 = (l2.tdiv x3) → 0 ≤ l1 ∧ l1 < 8 ∧ 0 < x3 ∧ r32 (l4.tdiv x3) ∧ ∀ x30 : Int, x30 = (l4.tdiv x3) → 0 ≤ l1 ∧ l1 < 8 ∧ Q (ups m_ups l1 x18) (ups m_downs l1 x30))) l2 l4
set_option maxHeartbeats 4000000 in
set_option maxRecDepth 100000 in
theorem c_X8_keep (l : Launch) (D : va_G) (cI cJ : ClassId) (zt : Nat) (hX8 : Nat) (aX8_ups : Nat) (aX8_downs : Nat) (m_many : Int) (aX8_row : Nat) (m_isSpent : Int) (m_found : Int) (aX8_sumMany : Nat) (aX8_sumShares : Nat) (aX8_sumSet : Nat) (aX8_taken : Nat) (aX8_restUp : Nat) (aX8_restDown : Nat) (m_fewest : Int) (m_wishes : Int) (aX8_wished : Nat) (aX8_far : Nat) (aX8_queue : Nat) (m_divided : Int) (aX8_divisors : Nat) (aX8_least : Nat) (m_pairOne : Int) (m_pairTwo : Int) (m_sumUp : Int) (m_sumDown : Int) (m_ups : Int → Int) (m_downs : Int → Int) (l1 : Int) (l2 : Int) (l4 : Int) (Q : (Int → Int) → (Int → Int) → Prop) (r_m_ups : rr32 m_ups) (r_m_downs : rr32 m_downs) (r_l1 : r32 l1) (r_l2 : r64 l2) (r_l4 : r64 l4) (h : wp_X8_keep Q m_ups m_downs l1 l2 l4) : Ct l D cI cJ zt yX8_keep cX8_keep 8 none 2 0 0 [.ref hX8, .int (i32 l1), .long (i64 l2), .long (i64 l4)] [(hX8, .inr (7, [.ref aX8_ups, .ref aX8_downs, .int (i32 m_many), .ref aX8_row, .int (i32 m_isSpent), .int (i32 m_found), .ref aX8_sumMany, .ref aX8_sumShares, .ref aX8_sumSet, .ref aX8_taken, .ref aX8_restUp, .ref aX8_restDown, .int (i32 m_fewest), .int (i32 m_wishes), .ref aX8_wished, .ref aX8_far, .ref aX8_queue, .int (i32 m_divided), .ref aX8_divisors, .ref aX8_least, .long (i64 m_pairOne), .long (i64 m_pairTwo), .long (i64 m_sumUp), .long (i64 m_sumDown)])), (aX8_ups, aI cI 8 m_ups), (aX8_downs, aI cI 8 m_downs)] (po_X8_keep cI cJ hX8 aX8_ups aX8_downs m_many aX8_row m_isSpent m_found aX8_sumMany aX8_sumShares aX8_sumSet aX8_taken aX8_restUp aX8_restDown m_fewest m_wishes aX8_wished aX8_far aX8_queue m_divided aX8_divisors aX8_least m_pairOne m_pairTwo m_sumUp m_sumDown Q) := by
  refine ct_of (by decide +kernel) (Nat.le_of_ble_eq_true rfl) (fun X hl hDD hcI hcJ hzt hR hF hnm g => ?_)
  subst hl; subst hDD; subst hcI; subst hcJ; subst hzt
  show Wat X 0 0 0 [(0, .ref hX8), (1, .int (i32 l1)), (2, .long (i64 l2)), (4, .long (i64 l4))] [] [(hX8, .inr (7, [.ref aX8_ups, .ref aX8_downs, .int (i32 m_many), .ref aX8_row, .int (i32 m_isSpent), .int (i32 m_found), .ref aX8_sumMany, .ref aX8_sumShares, .ref aX8_sumSet, .ref aX8_taken, .ref aX8_restUp, .ref aX8_restDown, .int (i32 m_fewest), .int (i32 m_wishes), .ref aX8_wished, .ref aX8_far, .ref aX8_queue, .int (i32 m_divided), .ref aX8_divisors, .ref aX8_least, .long (i64 m_pairOne), .long (i64 m_pairTwo), .long (i64 m_sumUp), .long (i64 m_sumDown)])), (aX8_ups, aI X.cI 8 m_ups), (aX8_downs, aI X.cI 8 m_downs)]
  replace g : Gd X cX8_keep RX8 none 8 := g
  rw [wp_X8_keep] at h
  refine q_lload_n g 2 2 rfl dX8_keep_0 ?_
  refine q_lload g 4 3 rfl dX8_keep_1 ?_
  refine q_callS (lev := 1) (mc := 0) (ms := 0) (As := [.long (i64 l2), .long (i64 l4)]) g 64 (c_X8_gcd X.l X.D X.cI X.cJ X.zt l2 l4 _ r_l2 r_l4 h) (wr := [(hX8, .inr (7, [.ref aX8_ups, .ref aX8_downs, .int (i32 m_many), .ref aX8_row, .int (i32 m_isSpent), .int (i32 m_found), .ref aX8_sumMany, .ref aX8_sumShares, .ref aX8_sumSet, .ref aX8_taken, .ref aX8_restUp, .ref aX8_restDown, .int (i32 m_fewest), .int (i32 m_wishes), .ref aX8_wished, .ref aX8_far, .ref aX8_queue, .int (i32 m_divided), .ref aX8_divisors, .ref aX8_least, .long (i64 m_pairOne), .long (i64 m_pairTwo), .long (i64 m_sumUp), .long (i64 m_sumDown)])), (aX8_ups, aI X.cI 8 m_ups), (aX8_downs, aI X.cI 8 m_downs)]) [] [0, 1, 2] rfl rfl rfl (by decide) (by decide) (by decide) wM_X8_64 wT_X8_gcd wZ_X8 wC_X8_gcd 2 rfl (by decide +kernel) (by rw [hR]; exact ⟨by show 1 + 1 ≤ 2; omega, by show 8 + (10 + 11) + 100 * 1 ≤ 100 * 2; omega⟩) (by rw [hR]; exact ⟨Nat.le_refl _, Nat.le_refl _⟩) (by decide) rfl dX8_keep_3 (fun rv w1 hq => ?_)
  obtain ⟨x3, rfl, rfl, rx3, h⟩ := hq
  show Wat X 0 0 6 [(0, .ref hX8), (1, .int (i32 l1)), (2, .long (i64 l2)), (4, .long (i64 l4))] [.long (i64 x3)] [(hX8, .inr (7, [.ref aX8_ups, .ref aX8_downs, .int (i32 m_many), .ref aX8_row, .int (i32 m_isSpent), .int (i32 m_found), .ref aX8_sumMany, .ref aX8_sumShares, .ref aX8_sumSet, .ref aX8_taken, .ref aX8_restUp, .ref aX8_restDown, .int (i32 m_fewest), .int (i32 m_wishes), .ref aX8_wished, .ref aX8_far, .ref aX8_queue, .int (i32 m_divided), .ref aX8_divisors, .ref aX8_least, .long (i64 m_pairOne), .long (i64 m_pairTwo), .long (i64 m_sumUp), .long (i64 m_sumDown)])), (aX8_ups, aI X.cI 8 m_ups), (aX8_downs, aI X.cI 8 m_downs)]
  refine q_lstore (lv' := [(6, .long (i64 x3)), (0, .ref hX8), (1, .int (i32 l1)), (2, .long (i64 l2)), (4, .long (i64 l4))]) g 6   (by decide) rfl dX8_keep_6 ?_
  refine q_aload_n g 0 1 rfl dX8_keep_8 ?_
  refine q_get (C := RX8) (T := TX8) (N := 24) g 7 inX8 0 0 rfl rfl (by decide) wF_X8_7 rfl dX8_keep_9 ?_
  refine q_iload_n g 1 2 rfl dX8_keep_12 ?_
  refine q_lload_n g 2 3 rfl dX8_keep_13 ?_
  refine q_lload g 6 0 rfl dX8_keep_14 ?_
  obtain ⟨c16, h⟩ := h
  refine q_ldiv g r_l2 rx3 (ne_of_pos c16) dX8_keep_16 ?_
  obtain ⟨c17, h⟩ := h
  refine q_l2i g dX8_keep_17 ?_
  refine q_topi c17 (fun x18 ex18 rx18 => ?_)
  replace h := h x18 ex18
  obtain ⟨c18, h⟩ := h
  obtain ⟨e18, h⟩ := h
  refine q_iast (ws' := [(hX8, .inr (7, [.ref aX8_ups, .ref aX8_downs, .int (i32 m_many), .ref aX8_row, .int (i32 m_isSpent), .int (i32 m_found), .ref aX8_sumMany, .ref aX8_sumShares, .ref aX8_sumSet, .ref aX8_taken, .ref aX8_restUp, .ref aX8_restDown, .int (i32 m_fewest), .int (i32 m_wishes), .ref aX8_wished, .ref aX8_far, .ref aX8_queue, .int (i32 m_divided), .ref aX8_divisors, .ref aX8_least, .long (i64 m_pairOne), .long (i64 m_pairTwo), .long (i64 m_sumUp), .long (i64 m_sumDown)])), (aX8_ups, aI X.cI 8 (ups m_ups l1 x18)), (aX8_downs, aI X.cI 8 m_downs)]) g 1 rfl c18 e18 (by decide) rfl dX8_keep_18 ?_
  refine q_aload_n g 0 1 rfl dX8_keep_19 ?_
  refine q_get (C := RX8) (T := TX8) (N := 24) g 13 inX8 0 1 rfl rfl (by decide) wF_X8_13 rfl dX8_keep_20 ?_
  refine q_iload_n g 1 2 rfl dX8_keep_23 ?_
  refine q_lload g 4 4 rfl dX8_keep_24 ?_
  refine q_lload g 6 0 rfl dX8_keep_26 ?_
  obtain ⟨c28, h⟩ := h
  refine q_ldiv g r_l4 rx3 (ne_of_pos c28) dX8_keep_28 ?_
  obtain ⟨c29, h⟩ := h
  refine q_l2i g dX8_keep_29 ?_
  refine q_topi c29 (fun x30 ex30 rx30 => ?_)
  replace h := h x30 ex30
  obtain ⟨c30, h⟩ := h
  obtain ⟨e30, h⟩ := h
  refine q_iast (ws' := [(hX8, .inr (7, [.ref aX8_ups, .ref aX8_downs, .int (i32 m_many), .ref aX8_row, .int (i32 m_isSpent), .int (i32 m_found), .ref aX8_sumMany, .ref aX8_sumShares, .ref aX8_sumSet, .ref aX8_taken, .ref aX8_restUp, .ref aX8_restDown, .int (i32 m_fewest), .int (i32 m_wishes), .ref aX8_wished, .ref aX8_far, .ref aX8_queue, .int (i32 m_divided), .ref aX8_divisors, .ref aX8_least, .long (i64 m_pairOne), .long (i64 m_pairTwo), .long (i64 m_sumUp), .long (i64 m_sumDown)])), (aX8_ups, aI X.cI 8 (ups m_ups l1 x18)), (aX8_downs, aI X.cI 8 (ups m_downs l1 x30))]) g 2 rfl c30 e30 (by decide) rfl dX8_keep_30 ?_
  exact q_vret g hF ⟨(ups m_ups l1 x18), (ups m_downs l1 x30), rfl, rfl, (rr32_u r_m_ups rx18), (rr32_u r_m_downs rx30), h⟩ dX8_keep_31
