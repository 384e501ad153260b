theorem wC_X4_bit : Cond.code yX4_bit cX4_bit 1 (some .long) ∈ TT := List.mem_filter.mpr ⟨List.mem_append_right _ (List.mem_of_getElem? (i := 93) (by decide +kernel)), rfl⟩
theorem wM_X4_9 : Cond.methodLink RX4 9 yX4_bit ∈ TT := List.mem_filter.mpr ⟨List.mem_append_right _ (List.mem_of_getElem? (i := 459) (by decide +kernel)), rfl⟩
theorem wT_X4_bit : Cond.static yX4_bit ∈ TT := List.mem_filter.mpr ⟨List.mem_append_right _ (List.mem_of_getElem? (i := 92) (by decide +kernel)), rfl⟩
theorem wZ_X4 : Cond.initialized RX4 ∈ TT := List.mem_filter.mpr ⟨List.mem_append_right _ (List.mem_of_getElem? (i := 5) (by decide +kernel)), rfl⟩
theorem dX4_bit_0 : decode cX4_bit 0 = .ok (.iload_n 0, 1) := by decide +kernel
theorem dX4_bit_1 : decode cX4_bit 1 = .ok (.iconst 2, 1) := by decide +kernel
theorem dX4_bit_2 : decode cX4_bit 2 = .ok (.if_icmp .lt 9, 3) := by decide +kernel
theorem dX4_bit_5 : decode cX4_bit 5 = .ok (.iload_n 0, 1) := by decide +kernel
theorem dX4_bit_6 : decode cX4_bit 6 = .ok (.bipush 60, 2) := by decide +kernel
theorem dX4_bit_8 : decode cX4_bit 8 = .ok (.if_icmp .le 7, 3) := by decide +kernel
theorem dX4_bit_11 : decode cX4_bit 11 = .ok (.lconst 0, 1) := by decide +kernel
theorem dX4_bit_12 : decode cX4_bit 12 = .ok (.goto 9, 3) := by decide +kernel
theorem dX4_bit_15 : decode cX4_bit 15 = .ok (.lconst 1, 1) := by decide +kernel
theorem dX4_bit_16 : decode cX4_bit 16 = .ok (.bipush 62, 2) := by decide +kernel
theorem dX4_bit_18 : decode cX4_bit 18 = .ok (.iload_n 0, 1) := by decide +kernel
theorem dX4_bit_19 : decode cX4_bit 19 = .ok (.isub, 1) := by decide +kernel
theorem dX4_bit_20 : decode cX4_bit 20 = .ok (.lshl, 1) := by decide +kernel
theorem dX4_bit_21 : decode cX4_bit 21 = .ok (.lreturn, 1) := by decide +kernel
abbrev po_X4_bit (cI cJ : ClassId) (Q : Int → Prop) : Option Value → va_W → Prop := fun rv w1 => ∃ (r0 : Int), rv = some (.long (i64 r0)) ∧ w1 = [] ∧ r64 r0 ∧ Q r0
def wp_X4_bit_21 (Q : Int → Prop) (k0 : Int) : Prop := Q k0
set_option maxHeartbeats 4000000 in
set_option maxRecDepth 100000 in
theorem s_X4_bit_21 {X : Cx} (g : Gd X cX4_bit RX4 (some .long) 1) (hR : X.R = rmL 1 0 0) (Q : Int → Prop) (hF : FQ X 0 0 (po_X4_bit X.cI X.cJ Q)) : ∀ (k0 : Int), r64 k0 → wp_X4_bit_21 Q k0 → Wat X 0 0 21 [] [.long (i64 k0)] [] := by
  intro k0 r_k0 h
  rw [wp_X4_bit_21] at h
  exact q_lret g hF ⟨k0, rfl, rfl, r_k0, h⟩ dX4_bit_21
def wp_X4_bit_11 (Q : Int → Prop) : Prop := wp_X4_bit_21 Q 0
set_option maxHeartbeats 4000000 in
set_option maxRecDepth 100000 in
theorem s_X4_bit_11 {X : Cx} (g : Gd X cX4_bit RX4 (some .long) 1) (hR : X.R = rmL 1 0 0) (Q : Int → Prop) (hF : FQ X 0 0 (po_X4_bit X.cI X.cJ Q)) : wp_X4_bit_11 Q → Wat X 0 0 11 [] [] [] := by
  intro h
  rw [wp_X4_bit_11] at h
  refine q_lconst g 0 0 rfl dX4_bit_11 ?_
  refine q_goto g (9) 21 (by decide) dX4_bit_12 ?_
  exact s_X4_bit_21 g hR Q hF 0 (r64_lit _ (by decide)) h
def wp_X4_bit (Q : Int → Prop) (l0 : Int) : Prop := ((l0 < 2 → wp_X4_bit_11 Q) ∧
  (¬ (l0 < 2) → ((l0 ≤ 60 → (r32 (62 - l0) ∧ wp_X4_bit_21 Q (shl64 1 (62 - l0)))) ∧
  (¬ (l0 ≤ 60) → wp_X4_bit_11 Q))))
set_option maxHeartbeats 4000000 in
set_option maxRecDepth 100000 in
theorem c_X4_bit (l : Launch) (D : va_G) (cI cJ : ClassId) (zt : Nat) (l0 : Int) (Q : Int → Prop) (r_l0 : r32 l0) (h : wp_X4_bit Q l0) : Ct l D cI cJ zt yX4_bit cX4_bit 1 (some .long) 1 0 0 [.int (i32 l0)] [] (po_X4_bit cI cJ Q) := by
  refine ct_of (by decide +kernel) (Nat.le_of_ble_eq_true rfl) (fun X hl hDD hcI hcJ hzt hR hF hnm g => ?_)
  subst hl; subst hDD; subst hcI; subst hcJ; subst hzt
  show Wat X 0 0 0 [(0, .int (i32 l0))] [] []
  replace g : Gd X cX4_bit RX4 (some .long) 1 := g
  rw [wp_X4_bit] at h
  refine q_iload_n g 0 0 rfl dX4_bit_0 ?_
  refine q_iconst g (2) dX4_bit_1 ?_
  refine q_icmp_lt g (9) 11 r_l0 (r32_lit _ (by decide)) (by decide) dX4_bit_2 (fun b2 => ?_) (fun b2 => ?_)
  · replace h := h.1 b2
    refine q_lv (lv' := []) [] rfl ?_
    exact s_X4_bit_11 g hR Q hF h
  replace h := h.2 b2
  refine q_iload_n g 0 0 rfl dX4_bit_5 ?_
  refine q_bipush g (60) (by decide) (by decide) dX4_bit_6 ?_
  refine q_icmp_le g (7) 15 r_l0 (r32_lit _ (by decide)) (by decide) dX4_bit_8 (fun b8 => ?_) (fun b8 => ?_)
  · replace h := h.1 b8
    refine q_lconst g 1 1 rfl dX4_bit_15 ?_
    refine q_bipush g (62) (by decide) (by decide) dX4_bit_16 ?_
    refine q_iload_n g 0 0 rfl dX4_bit_18 ?_
    obtain ⟨c19, h⟩ := h
    refine q_isub g dX4_bit_19 ?_
    refine q_lshl g dX4_bit_20 ?_
    refine q_lv (lv' := []) [] rfl ?_
    exact s_X4_bit_21 g hR Q hF (shl64 1 (62 - l0)) (r_shl64 _ _) h
  replace h := h.2 b8
  refine q_lv (lv' := []) [] rfl ?_
  exact s_X4_bit_11 g hR Q hF h
theorem dX4_numberAt_0 : decode cX4_numberAt 0 = .ok (.iconst 0, 1) := by decide +kernel
theorem dX4_numberAt_1 : decode cX4_numberAt 1 = .ok (.istore_n 3, 1) := by decide +kernel
theorem dX4_numberAt_2 : decode cX4_numberAt 2 = .ok (.iconst 2, 1) := by decide +kernel
theorem dX4_numberAt_3 : decode cX4_numberAt 3 = .ok (.istore 4, 2) := by decide +kernel
theorem dX4_numberAt_5 : decode cX4_numberAt 5 = .ok (.iload 4, 2) := by decide +kernel
theorem dX4_numberAt_7 : decode cX4_numberAt 7 = .ok (.bipush 60, 2) := by decide +kernel
theorem dX4_numberAt_9 : decode cX4_numberAt 9 = .ok (.if_icmp .gt 32, 3) := by decide +kernel
theorem dX4_numberAt_12 : decode cX4_numberAt 12 = .ok (.lload_n 0, 1) := by decide +kernel
theorem dX4_numberAt_13 : decode cX4_numberAt 13 = .ok (.iload 4, 2) := by decide +kernel
theorem dX4_numberAt_15 : decode cX4_numberAt 15 = .ok (.invokestatic 9, 3) := by decide +kernel
theorem dX4_numberAt_18 : decode cX4_numberAt 18 = .ok (.land, 1) := by decide +kernel
theorem dX4_numberAt_19 : decode cX4_numberAt 19 = .ok (.lconst 0, 1) := by decide +kernel
theorem dX4_numberAt_20 : decode cX4_numberAt 20 = .ok (.lcmp, 1) := by decide +kernel
theorem dX4_numberAt_21 : decode cX4_numberAt 21 = .ok (.ifCond .eq 14, 3) := by decide +kernel
theorem dX4_numberAt_24 : decode cX4_numberAt 24 = .ok (.iload_n 3, 1) := by decide +kernel
theorem dX4_numberAt_25 : decode cX4_numberAt 25 = .ok (.iload_n 2, 1) := by decide +kernel
theorem dX4_numberAt_26 : decode cX4_numberAt 26 = .ok (.if_icmp .ne 6, 3) := by decide +kernel
theorem dX4_numberAt_29 : decode cX4_numberAt 29 = .ok (.iload 4, 2) := by decide +kernel
theorem dX4_numberAt_31 : decode cX4_numberAt 31 = .ok (.ireturn, 1) := by decide +kernel
theorem dX4_numberAt_32 : decode cX4_numberAt 32 = .ok (.iinc 3 1, 3) := by decide +kernel
theorem dX4_numberAt_35 : decode cX4_numberAt 35 = .ok (.iinc 4 1, 3) := by decide +kernel
theorem dX4_numberAt_38 : decode cX4_numberAt 38 = .ok (.goto (-33), 3) := by decide +kernel
theorem dX4_numberAt_41 : decode cX4_numberAt 41 = .ok (.iconst 0, 1) := by decide +kernel
theorem dX4_numberAt_42 : decode cX4_numberAt 42 = .ok (.ireturn, 1) := by decide +kernel
abbrev po_X4_numberAt (cI cJ : ClassId) (Q : Int → Prop) : Option Value → va_W → Prop := fun rv w1 => ∃ (r0 : Int), rv = some (.int (i32 r0)) ∧ w1 = [] ∧ r32 r0 ∧ Q r0
def wp_X4_numberAt_35 (Q : Int → Prop) (K_5 : Int → Int → Int → Int → Prop) (l0 : Int) (l2 : Int) (l3 : Int) (l4 : Int) : Prop := (r32 (l4 + 1) ∧ K_5 l0 l2 l3 (l4 + 1))
set_option maxHeartbeats 4000000 in
set_option maxRecDepth 100000 in
theorem s_X4_numberAt_35 {X : Cx} (g : Gd X cX4_numberAt RX4 (some .int) 5) (hR : X.R = rmL 2 0 0) (Q : Int → Prop) (hF : FQ X 0 0 (po_X4_numberAt X.cI X.cJ Q)) (K_5 : Int → Int → Int → Int → Prop) (hK_5 : ∀ (l0 : Int) (l2 : Int) (l3 : Int) (l4 : Int), r64 l0 → r32 l2 → r32 l3 → r32 l4 → K_5 l0 l2 l3 l4 → Wat X 0 0 5 [(0, .long (i64 l0)), (2, .int (i32 l2)), (3, .int (i32 l3)), (4, .int (i32 l4))] [] []) : ∀ (l0 : Int) (l2 : Int) (l3 : Int) (l4 : Int), r64 l0 → r32 l2 → r32 l3 → r32 l4 → wp_X4_numberAt_35 Q K_5 l0 l2 l3 l4 → Wat X 0 0 35 [(0, .long (i64 l0)), (2, .int (i32 l2)), (3, .int (i32 l3)), (4, .int (i32 l4))] [] [] := by
  intro l0 l2 l3 l4 r_l0 r_l2 r_l3 r_l4 h
  rw [wp_X4_numberAt_35] at h
  obtain ⟨c35, h⟩ := h
  refine q_iinc (lv' := [(4, .int (i32 (l4 + 1))), (0, .long (i64 l0)), (2, .int (i32 l2)), (3, .int (i32 l3))]) g 4 3 1 (by decide) rfl rfl dX4_numberAt_35 ?_
  refine q_goto g (-33) 5 (by decide) dX4_numberAt_38 ?_
  refine q_lv (lv' := [(0, .long (i64 l0)), (2, .int (i32 l2)), (3, .int (i32 l3)), (4, .int (i32 (l4 + 1)))]) [1, 2, 3, 0] rfl ?_
  exact hK_5 l0 l2 l3 (l4 + 1) r_l0 r_l2 r_l3 c35 h
def wp_X4_numberAt_5 (Q : Int → Prop) : Nat → Int → Int → Int → Int → Prop
  | 0, _, _, _, _ => False
  | n + 1, l0, l2, l3, l4 => ((60 < l4 → Q 0) ∧
  (¬ (60 < l4) → wp_X4_bit (fun (x15 : Int) => (((land64 l0 x15) = 0 → wp_X4_numberAt_35 Q (wp_X4_numberAt_5 Q n) l0 l2 l3 l4) ∧
  (¬ ((land64 l0 x15) = 0) → ((¬ l3 = l2 → (r32 (l3 + 1) ∧ wp_X4_numberAt_35 Q (wp_X4_numberAt_5 Q n) l0 l2 (l3 + 1) l4)) ∧
  (l3 = l2 → Q l4))))) l4))
set_option maxHeartbeats 4000000 in
set_option maxRecDepth 100000 in
theorem s_X4_numberAt_5 {X : Cx} (g : Gd X cX4_numberAt RX4 (some .int) 5) (hR : X.R = rmL 2 0 0) (Q : Int → Prop) (hF : FQ X 0 0 (po_X4_numberAt X.cI X.cJ Q)) : ∀ (n : Nat) (l0 : Int) (l2 : Int) (l3 : Int) (l4 : Int), r64 l0 → r32 l2 → r32 l3 → r32 l4 → wp_X4_numberAt_5 Q n l0 l2 l3 l4 → Wat X 0 0 5 [(0, .long (i64 l0)), (2, .int (i32 l2)), (3, .int (i32 l3)), (4, .int (i32 l4))] [] [] := by
  intro n
  induction n with
  | zero => intro l0 l2 l3 l4 r_l0 r_l2 r_l3 r_l4 h; exact False.elim h
  | succ n ih =>
    intro l0 l2 l3 l4 r_l0 r_l2 r_l3 r_l4 h
    rw [wp_X4_numberAt_5] at h
    refine q_iload g 4 3 rfl dX4_numberAt_5 ?_
    refine q_bipush g (60) (by decide) (by decide) dX4_numberAt_7 ?_
    refine q_icmp_gt g (32) 41 r_l4 (r32_lit _ (by decide)) (by decide) dX4_numberAt_9 (fun b9 => ?_) (fun b9 => ?_)
    · replace h := h.1 b9
      refine q_iconst g (0) dX4_numberAt_41 ?_
      exact q_iret g hF ⟨0, rfl, rfl, (r32_lit _ (by decide)), h⟩ dX4_numberAt_42
    replace h := h.2 b9
    refine q_lload_n g 0 0 rfl dX4_numberAt_12 ?_
    refine q_iload g 4 3 rfl dX4_numberAt_13 ?_
    refine q_callS (lev := 1) (mc := 0) (ms := 0) (As := [.int (i32 l4)]) g 9 (c_X4_bit X.l X.D X.cI X.cJ X.zt l4 _ r_l4 h) (wr := []) [] [] rfl rfl rfl (by decide) (by decide) (by decide) wM_X4_9 wT_X4_bit wZ_X4 wC_X4_bit 1 rfl (by decide +kernel) (by rw [hR]; exact ⟨by show 1 + 1 ≤ 2; omega, by show 8 + (1 + 11) + 100 * 1 ≤ 100 * 2; omega⟩) (by rw [hR]; exact ⟨Nat.le_refl _, Nat.le_refl _⟩) (Nat.le_of_ble_eq_true rfl) rfl dX4_numberAt_15 (fun rv w1 hq => ?_)
    obtain ⟨x15, rfl, rfl, rx15, h⟩ := hq
    show Wat X 0 0 18 [(0, .long (i64 l0)), (2, .int (i32 l2)), (3, .int (i32 l3)), (4, .int (i32 l4))] [.long (i64 x15), .long (i64 l0)] []
    refine q_land g dX4_numberAt_18 ?_
    refine q_lconst g 0 0 rfl dX4_numberAt_19 ?_
    refine q_lcmp_eq g (14) 35 (r_land64 _ _) (r64_lit _ (by decide)) (by decide) dX4_numberAt_20 dX4_numberAt_21 (fun b20 => ?_) (fun b20 => ?_)
    · replace h := h.1 b20
      exact s_X4_numberAt_35 g hR Q hF (wp_X4_numberAt_5 Q n) (fun v0 v1 v2 v3 w0 w1 w2 w3 hh => ih v0 v1 v2 v3 w0 w1 w2 w3 hh) l0 l2 l3 l4 r_l0 r_l2 r_l3 r_l4 h
    replace h := h.2 b20
    refine q_iload_n g 3 2 rfl dX4_numberAt_24 ?_
    refine q_iload_n g 2 1 rfl dX4_numberAt_25 ?_
    refine q_icmp_ne g (6) 32 r_l3 r_l2 (by decide) dX4_numberAt_26 (fun b26 => ?_) (fun b26 => ?_)
    · replace h := h.1 b26
      obtain ⟨c32, h⟩ := h
      refine q_iinc (lv' := [(3, .int (i32 (l3 + 1))), (0, .long (i64 l0)), (2, .int (i32 l2)), (4, .int (i32 l4))]) g 3 2 1 (by decide) rfl rfl dX4_numberAt_32 ?_
      refine q_lv (lv' := [(0, .long (i64 l0)), (2, .int (i32 l2)), (3, .int (i32 (l3 + 1))), (4, .int (i32 l4))]) [1, 2, 0, 3] rfl ?_
      exact s_X4_numberAt_35 g hR Q hF (wp_X4_numberAt_5 Q n) (fun v0 v1 v2 v3 w0 w1 w2 w3 hh => ih v0 v1 v2 v3 w0 w1 w2 w3 hh) l0 l2 (l3 + 1) l4 r_l0 r_l2 c32 r_l4 h
    replace h := h.2 b26
    refine q_iload g 4 3 rfl dX4_numberAt_29 ?_
    exact q_iret g hF ⟨l4, rfl, rfl, r_l4, h⟩ dX4_numberAt_31
def wp_X4_numberAt (Q : Int → Prop) (l0 : Int) (l2 : Int) : Prop := (∃ n0 : Nat, wp_X4_numberAt_5 Q n0 l0 l2 0 2)
set_option maxHeartbeats 4000000 in
set_option maxRecDepth 100000 in
theorem c_X4_numberAt (l : Launch) (D : va_G) (cI cJ : ClassId) (zt : Nat) (l0 : Int) (l2 : Int) (Q : Int → Prop) (r_l0 : r64 l0) (r_l2 : r32 l2) (h : wp_X4_numberAt Q l0 l2) : Ct l D cI cJ zt yX4_numberAt cX4_numberAt 5 (some .int) 2 0 0 [.long (i64 l0), .int (i32 l2)] [] (po_X4_numberAt cI cJ Q) := by
  refine ct_of (by decide +kernel) (Nat.le_of_ble_eq_true rfl) (fun X hl hDD hcI hcJ hzt hR hF hnm g => ?_)
  subst hl; subst hDD; subst hcI; subst hcJ; subst hzt
  show Wat X 0 0 0 [(0, .long (i64 l0)), (2, .int (i32 l2))] [] []
  replace g : Gd X cX4_numberAt RX4 (some .int) 5 := g
  rw [wp_X4_numberAt] at h
  refine q_iconst g (0) dX4_numberAt_0 ?_
  refine q_istore_n (lv' := [(3, .int (i32 0)), (0, .long (i64 l0)), (2, .int (i32 l2))]) g 3 3 rfl (by decide) rfl dX4_numberAt_1 ?_
  refine q_iconst g (2) dX4_numberAt_2 ?_
  refine q_istore (lv' := [(4, .int (i32 2)), (3, .int (i32 0)), (0, .long (i64 l0)), (2, .int (i32 l2))]) g 4   (by decide) rfl dX4_numberAt_3 ?_
  refine q_lv (lv' := [(0, .long (i64 l0)), (2, .int (i32 l2)), (3, .int (i32 0)), (4, .int (i32 2))]) [2, 3, 1, 0] rfl ?_
  obtain ⟨n0, h⟩ := h
  exact s_X4_numberAt_5 g hR Q hF n0 l0 l2 0 2 r_l0 r_l2 (r32_lit _ (by decide)) (r32_lit _ (by decide)) h
theorem dX4_total_0 : decode cX4_total 0 = .ok (.iconst 0, 1) := by decide +kernel
theorem dX4_total_1 : decode cX4_total 1 = .ok (.istore_n 2, 1) := by decide +kernel
theorem dX4_total_2 : decode cX4_total 2 = .ok (.iconst 2, 1) := by decide +kernel
theorem dX4_total_3 : decode cX4_total 3 = .ok (.istore_n 3, 1) := by decide +kernel
theorem dX4_total_4 : decode cX4_total 4 = .ok (.iload_n 3, 1) := by decide +kernel
theorem dX4_total_5 : decode cX4_total 5 = .ok (.bipush 60, 2) := by decide +kernel
theorem dX4_total_7 : decode cX4_total 7 = .ok (.if_icmp .gt 24, 3) := by decide +kernel
theorem dX4_total_10 : decode cX4_total 10 = .ok (.lload_n 0, 1) := by decide +kernel
theorem dX4_total_11 : decode cX4_total 11 = .ok (.iload_n 3, 1) := by decide +kernel
theorem dX4_total_12 : decode cX4_total 12 = .ok (.invokestatic 9, 3) := by decide +kernel
theorem dX4_total_15 : decode cX4_total 15 = .ok (.land, 1) := by decide +kernel
theorem dX4_total_16 : decode cX4_total 16 = .ok (.lconst 0, 1) := by decide +kernel
theorem dX4_total_17 : decode cX4_total 17 = .ok (.lcmp, 1) := by decide +kernel
theorem dX4_total_18 : decode cX4_total 18 = .ok (.ifCond .eq 7, 3) := by decide +kernel
theorem dX4_total_21 : decode cX4_total 21 = .ok (.iload_n 2, 1) := by decide +kernel
theorem dX4_total_22 : decode cX4_total 22 = .ok (.iload_n 3, 1) := by decide +kernel
theorem dX4_total_23 : decode cX4_total 23 = .ok (.iadd, 1) := by decide +kernel
theorem dX4_total_24 : decode cX4_total 24 = .ok (.istore_n 2, 1) := by decide +kernel
theorem dX4_total_25 : decode cX4_total 25 = .ok (.iinc 3 1, 3) := by decide +kernel
theorem dX4_total_28 : decode cX4_total 28 = .ok (.goto (-24), 3) := by decide +kernel
theorem dX4_total_31 : decode cX4_total 31 = .ok (.iload_n 2, 1) := by decide +kernel
theorem dX4_total_32 : decode cX4_total 32 = .ok (.ireturn, 1) := by decide +kernel
abbrev po_X4_total (cI cJ : ClassId) (Q : Int → Prop) : Option Value → va_W → Prop := fun rv w1 => ∃ (r0 : Int), rv = some (.int (i32 r0)) ∧ w1 = [] ∧ r32 r0 ∧ Q r0
def wp_X4_total_25 (Q : Int → Prop) (K_4 : Int → Int → Int → Prop) (l0 : Int) (l2 : Int) (l3 : Int) : Prop := (r32 (l3 + 1) ∧ K_4 l0 l2 (l3 + 1))
set_option maxHeartbeats 4000000 in
set_option maxRecDepth 100000 in
theorem s_X4_total_25 {X : Cx} (g : Gd X cX4_total RX4 (some .int) 4) (hR : X.R = rmL 2 0 0) (Q : Int → Prop) (hF : FQ X 0 0 (po_X4_total X.cI X.cJ Q)) (K_4 : Int → Int → Int → Prop) (hK_4 : ∀ (l0 : Int) (l2 : Int) (l3 : Int), r64 l0 → r32 l2 → r32 l3 → K_4 l0 l2 l3 → Wat X 0 0 4 [(0, .long (i64 l0)), (2, .int (i32 l2)), (3, .int (i32 l3))] [] []) : ∀ (l0 : Int) (l2 : Int) (l3 : Int), r64 l0 → r32 l2 → r32 l3 → wp_X4_total_25 Q K_4 l0 l2 l3 → Wat X 0 0 25 [(0, .long (i64 l0)), (2, .int (i32 l2)), (3, .int (i32 l3))] [] [] := by
  intro l0 l2 l3 r_l0 r_l2 r_l3 h
  rw [wp_X4_total_25] at h
  obtain ⟨c25, h⟩ := h
  refine q_iinc (lv' := [(3, .int (i32 (l3 + 1))), (0, .long (i64 l0)), (2, .int (i32 l2))]) g 3 2 1 (by decide) rfl rfl dX4_total_25 ?_
  refine q_goto g (-24) 4 (by decide) dX4_total_28 ?_
  refine q_lv (lv' := [(0, .long (i64 l0)), (2, .int (i32 l2)), (3, .int (i32 (l3 + 1)))]) [1, 2, 0] rfl ?_
  exact hK_4 l0 l2 (l3 + 1) r_l0 r_l2 c25 h
def wp_X4_total_4 (Q : Int → Prop) : Nat → Int → Int → Int → Prop
  | 0, _, _, _ => False
  | n + 1, l0, l2, l3 => ((60 < l3 → Q l2) ∧
  (¬ (60 < l3) → wp_X4_bit (fun (x12 : Int) => (((land64 l0 x12) = 0 → wp_X4_total_25 Q (wp_X4_total_4 Q n) l0 l2 l3) ∧
  (¬ ((land64 l0 x12) = 0) → (r32 (l2 + l3) ∧ ∀ x24 : Int, x24 = (l2 + l3) → wp_X4_total_25 Q (wp_X4_total_4 Q n) l0 x24 l3)))) l3))
set_option maxHeartbeats 4000000 in
set_option maxRecDepth 100000 in
theorem s_X4_total_4 {X : Cx} (g : Gd X cX4_total RX4 (some .int) 4) (hR : X.R = rmL 2 0 0) (Q : Int → Prop) (hF : FQ X 0 0 (po_X4_total X.cI X.cJ Q)) : ∀ (n : Nat) (l0 : Int) (l2 : Int) (l3 : Int), r64 l0 → r32 l2 → r32 l3 → wp_X4_total_4 Q n l0 l2 l3 → Wat X 0 0 4 [(0, .long (i64 l0)), (2, .int (i32 l2)), (3, .int (i32 l3))] [] [] := by
  intro n
  induction n with
  | zero => intro l0 l2 l3 r_l0 r_l2 r_l3 h; exact False.elim h
  | succ n ih =>
    intro l0 l2 l3 r_l0 r_l2 r_l3 h
    rw [wp_X4_total_4] at h
    refine q_iload_n g 3 2 rfl dX4_total_4 ?_
    refine q_bipush g (60) (by decide) (by decide) dX4_total_5 ?_
    refine q_icmp_gt g (24) 31 r_l3 (r32_lit _ (by decide)) (by decide) dX4_total_7 (fun b7 => ?_) (fun b7 => ?_)
    · replace h := h.1 b7
      refine q_iload_n g 2 1 rfl dX4_total_31 ?_
      exact q_iret g hF ⟨l2, rfl, rfl, r_l2, h⟩ dX4_total_32
    replace h := h.2 b7
    refine q_lload_n g 0 0 rfl dX4_total_10 ?_
    refine q_iload_n g 3 2 rfl dX4_total_11 ?_
    refine q_callS (lev := 1) (mc := 0) (ms := 0) (As := [.int (i32 l3)]) g 9 (c_X4_bit X.l X.D X.cI X.cJ X.zt l3 _ r_l3 h) (wr := []) [] [] rfl rfl rfl (by decide) (by decide) (by decide) wM_X4_9 wT_X4_bit wZ_X4 wC_X4_bit 1 rfl (by decide +kernel) (by rw [hR]; exact ⟨by show 1 + 1 ≤ 2; omega, by show 8 + (1 + 11) + 100 * 1 ≤ 100 * 2; omega⟩) (by rw [hR]; exact ⟨Nat.le_refl _, Nat.le_refl _⟩) (Nat.le_of_ble_eq_true rfl) rfl dX4_total_12 (fun rv w1 hq => ?_)
    obtain ⟨x12, rfl, rfl, rx12, h⟩ := hq
    show Wat X 0 0 15 [(0, .long (i64 l0)), (2, .int (i32 l2)), (3, .int (i32 l3))] [.long (i64 x12), .long (i64 l0)] []
    refine q_land g dX4_total_15 ?_
    refine q_lconst g 0 0 rfl dX4_total_16 ?_
    refine q_lcmp_eq g (7) 25 (r_land64 _ _) (r64_lit _ (by decide)) (by decide) dX4_total_17 dX4_total_18 (fun b17 => ?_) (fun b17 => ?_)
    · replace h := h.1 b17
      exact s_X4_total_25 g hR Q hF (wp_X4_total_4 Q n) (fun v0 v1 v2 w0 w1 w2 hh => ih v0 v1 v2 w0 w1 w2 hh) l0 l2 l3 r_l0 r_l2 r_l3 h
    replace h := h.2 b17
    refine q_iload_n g 2 1 rfl dX4_total_21 ?_
    refine q_iload_n g 3 2 rfl dX4_total_22 ?_
    obtain ⟨c23, h⟩ := h
    refine q_iadd g dX4_total_23 ?_
    refine q_topi c23 (fun x24 ex24 rx24 => ?_)
    replace h := h x24 ex24
    refine q_istore_n (lv' := [(2, .int (i32 x24)), (0, .long (i64 l0)), (3, .int (i32 l3))]) g 2 2 rfl (by decide) rfl dX4_total_24 ?_
    refine q_lv (lv' := [(0, .long (i64 l0)), (2, .int (i32 x24)), (3, .int (i32 l3))]) [1, 0, 2] rfl ?_
    exact s_X4_total_25 g hR Q hF (wp_X4_total_4 Q n) (fun v0 v1 v2 w0 w1 w2 hh => ih v0 v1 v2 w0 w1 w2 hh) l0 x24 l3 r_l0 rx24 r_l3 h
def wp_X4_total (Q : Int → Prop) (l0 : Int) : Prop := (∃ n0 : Nat, wp_X4_total_4 Q n0 l0 0 2)
set_option maxHeartbeats 4000000 in
set_option maxRecDepth 100000 in
theorem c_X4_total (l : Launch) (D : va_G) (cI cJ : ClassId) (zt : Nat) (l0 : Int) (Q : Int → Prop) (r_l0 : r64 l0) (h : wp_X4_total Q l0) : Ct l D cI cJ zt yX4_total cX4_total 4 (some .int) 2 0 0 [.long (i64 l0)] [] (po_X4_total cI cJ Q) := by
  refine ct_of (by decide +kernel) (Nat.le_of_ble_eq_true rfl) (fun X hl hDD hcI hcJ hzt hR hF hnm g => ?_)
  subst hl; subst hDD; subst hcI; subst hcJ; subst hzt
  show Wat X 0 0 0 [(0, .long (i64 l0))] [] []
  replace g : Gd X cX4_total RX4 (some .int) 4 := g
  rw [wp_X4_total] at h
  refine q_iconst g (0) dX4_total_0 ?_
  refine q_istore_n (lv' := [(2, .int (i32 0)), (0, .long (i64 l0))]) g 2 2 rfl (by decide) rfl dX4_total_1 ?_
  refine q_iconst g (2) dX4_total_2 ?_
  refine q_istore_n (lv' := [(3, .int (i32 2)), (2, .int (i32 0)), (0, .long (i64 l0))]) g 3 3 rfl (by decide) rfl dX4_total_3 ?_
  refine q_lv (lv' := [(0, .long (i64 l0)), (2, .int (i32 0)), (3, .int (i32 2))]) [2, 1, 0] rfl ?_
  obtain ⟨n0, h⟩ := h
  exact s_X4_total_4 g hR Q hF n0 l0 0 2 r_l0 (r32_lit _ (by decide)) (r32_lit _ (by decide)) h
