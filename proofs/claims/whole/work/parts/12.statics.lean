theorem wC_J9_floorMod_f86c9 : Cond.code yJ9_floorMod_f86c9 cJ9_floorMod_f86c9 6 (some .long) ∈ TT := List.mem_filter.mpr ⟨List.mem_append_right _ (List.mem_of_getElem? (i := 328) (by decide +kernel)), rfl⟩
theorem wC_J9_max_f86c9 : Cond.code yJ9_max_f86c9 cJ9_max_f86c9 4 (some .long) ∈ TT := List.mem_filter.mpr ⟨List.mem_append_right _ (List.mem_of_getElem? (i := 254) (by decide +kernel)), rfl⟩
theorem wM_X7_208 : Cond.methodLink RX7 208 yJ9_max_f86c9 ∈ TT := List.mem_filter.mpr ⟨List.mem_append_right _ (List.mem_of_getElem? (i := 252) (by decide +kernel)), rfl⟩
theorem wM_X7_213 : Cond.methodLink RX7 213 yJ9_floorMod_f86c9 ∈ TT := List.mem_filter.mpr ⟨List.mem_append_right _ (List.mem_of_getElem? (i := 326) (by decide +kernel)), rfl⟩
theorem wT_J9_floorMod_f86c9 : Cond.static yJ9_floorMod_f86c9 ∈ TT := List.mem_filter.mpr ⟨List.mem_append_right _ (List.mem_of_getElem? (i := 327) (by decide +kernel)), rfl⟩
theorem wT_J9_max_f86c9 : Cond.static yJ9_max_f86c9 ∈ TT := List.mem_filter.mpr ⟨List.mem_append_right _ (List.mem_of_getElem? (i := 253) (by decide +kernel)), rfl⟩
theorem wZ_J9 : Cond.initialized RJ9 ∈ TT := List.mem_filter.mpr ⟨List.mem_append_right _ (List.mem_of_getElem? (i := 11) (by decide +kernel)), rfl⟩
theorem dX7_roundedUp_0 : decode cX7_roundedUp 0 = .ok (.lload_n 2, 1) := by decide +kernel
theorem dX7_roundedUp_1 : decode cX7_roundedUp 1 = .ok (.lconst 1, 1) := by decide +kernel
theorem dX7_roundedUp_2 : decode cX7_roundedUp 2 = .ok (.lcmp, 1) := by decide +kernel
theorem dX7_roundedUp_3 : decode cX7_roundedUp 3 = .ok (.ifCond .ge 7, 3) := by decide +kernel
theorem dX7_roundedUp_6 : decode cX7_roundedUp 6 = .ok (.lconst 0, 1) := by decide +kernel
theorem dX7_roundedUp_7 : decode cX7_roundedUp 7 = .ok (.goto 10, 3) := by decide +kernel
theorem dX7_roundedUp_10 : decode cX7_roundedUp 10 = .ok (.lload_n 0, 1) := by decide +kernel
theorem dX7_roundedUp_11 : decode cX7_roundedUp 11 = .ok (.lload_n 2, 1) := by decide +kernel
theorem dX7_roundedUp_12 : decode cX7_roundedUp 12 = .ok (.ladd, 1) := by decide +kernel
theorem dX7_roundedUp_13 : decode cX7_roundedUp 13 = .ok (.lconst 1, 1) := by decide +kernel
theorem dX7_roundedUp_14 : decode cX7_roundedUp 14 = .ok (.lsub, 1) := by decide +kernel
theorem dX7_roundedUp_15 : decode cX7_roundedUp 15 = .ok (.lload_n 2, 1) := by decide +kernel
theorem dX7_roundedUp_16 : decode cX7_roundedUp 16 = .ok (.ldiv, 1) := by decide +kernel
theorem dX7_roundedUp_17 : decode cX7_roundedUp 17 = .ok (.lreturn, 1) := by decide +kernel
abbrev po_X7_roundedUp (cI cJ : ClassId) (Q : Int → Prop) : Option Value → va_W → Prop := fun rv w1 => ∃ (r0 : Int), rv = some (.long (i64 r0)) ∧ w1 = [] ∧ r64 r0 ∧ Q r0
def wp_X7_roundedUp_17 (Q : Int → Prop) (k0 : Int) : Prop := Q k0
set_option maxHeartbeats 4000000 in
set_option maxRecDepth 100000 in
theorem s_X7_roundedUp_17 {X : Cx} (g : Gd X cX7_roundedUp RX7 (some .long) 4) (hR : X.R = rmL 1 0 0) (Q : Int → Prop) (hF : FQ X 0 0 (po_X7_roundedUp X.cI X.cJ Q)) : ∀ (k0 : Int), r64 k0 → wp_X7_roundedUp_17 Q k0 → Wat X 0 0 17 [] [.long (i64 k0)] [] := by
  intro k0 r_k0 h
  rw [wp_X7_roundedUp_17] at h
  exact q_lret g hF ⟨k0, rfl, rfl, r_k0, h⟩ dX7_roundedUp_17
def wp_X7_roundedUp (Q : Int → Prop) (l0 : Int) (l2 : Int) : Prop := ((1 ≤ l2 → (r64 (l0 + l2) ∧ r64 ((l0 + l2) - 1) ∧ 0 < l2 ∧ wp_X7_roundedUp_17 Q (Int.tdiv ((l0 + l2) - 1) l2))) ∧
  (¬ (1 ≤ l2) → wp_X7_roundedUp_17 Q 0))
set_option maxHeartbeats 4000000 in
set_option maxRecDepth 100000 in
theorem c_X7_roundedUp (l : Launch) (D : va_G) (cI cJ : ClassId) (zt : Nat) (l0 : Int) (l2 : Int) (Q : Int → Prop) (r_l0 : r64 l0) (r_l2 : r64 l2) (h : wp_X7_roundedUp Q l0 l2) : Ct l D cI cJ zt yX7_roundedUp cX7_roundedUp 4 (some .long) 1 0 0 [.long (i64 l0), .long (i64 l2)] [] (po_X7_roundedUp cI cJ Q) := by
  refine ct_of (by decide +kernel) (Nat.le_of_ble_eq_true rfl) (fun X hl hDD hcI hcJ hzt hR hF hnm g => ?_)
  subst hl; subst hDD; subst hcI; subst hcJ; subst hzt
  show Wat X 0 0 0 [(0, .long (i64 l0)), (2, .long (i64 l2))] [] []
  replace g : Gd X cX7_roundedUp RX7 (some .long) 4 := g
  rw [wp_X7_roundedUp] at h
  refine q_lload_n g 2 1 rfl dX7_roundedUp_0 ?_
  refine q_lconst g 1 1 rfl dX7_roundedUp_1 ?_
  refine q_lcmp_ge g (7) 10 r_l2 (r64_lit _ (by decide)) (by decide) dX7_roundedUp_2 dX7_roundedUp_3 (fun b2 => ?_) (fun b2 => ?_)
  · replace h := h.1 b2
    refine q_lload_n g 0 0 rfl dX7_roundedUp_10 ?_
    refine q_lload_n g 2 1 rfl dX7_roundedUp_11 ?_
    obtain ⟨c12, h⟩ := h
    refine q_ladd g dX7_roundedUp_12 ?_
    refine q_lconst g 1 1 rfl dX7_roundedUp_13 ?_
    obtain ⟨c14, h⟩ := h
    refine q_lsub g dX7_roundedUp_14 ?_
    refine q_lload_n g 2 1 rfl dX7_roundedUp_15 ?_
    obtain ⟨c16, h⟩ := h
    refine q_ldiv g c14 r_l2 (ne_of_pos c16) dX7_roundedUp_16 ?_
    refine q_lv (lv' := []) [] rfl ?_
    exact s_X7_roundedUp_17 g hR Q hF (Int.tdiv ((l0 + l2) - 1) l2) (r64_tdiv c14 c16) h
  replace h := h.2 b2
  refine q_lconst g 0 0 rfl dX7_roundedUp_6 ?_
  refine q_goto g (10) 17 (by decide) dX7_roundedUp_7 ?_
  refine q_lv (lv' := []) [] rfl ?_
  exact s_X7_roundedUp_17 g hR Q hF 0 (r64_lit _ (by decide)) h
theorem dX7_commonDivisor_0 : decode cX7_commonDivisor 0 = .ok (.lload_n 0, 1) := by decide +kernel
theorem dX7_commonDivisor_1 : decode cX7_commonDivisor 1 = .ok (.lstore 4, 2) := by decide +kernel
theorem dX7_commonDivisor_3 : decode cX7_commonDivisor 3 = .ok (.lload_n 2, 1) := by decide +kernel
theorem dX7_commonDivisor_4 : decode cX7_commonDivisor 4 = .ok (.lstore 6, 2) := by decide +kernel
theorem dX7_commonDivisor_6 : decode cX7_commonDivisor 6 = .ok (.iconst 0, 1) := by decide +kernel
theorem dX7_commonDivisor_7 : decode cX7_commonDivisor 7 = .ok (.istore 8, 2) := by decide +kernel
theorem dX7_commonDivisor_9 : decode cX7_commonDivisor 9 = .ok (.iload 8, 2) := by decide +kernel
theorem dX7_commonDivisor_11 : decode cX7_commonDivisor 11 = .ok (.bipush 100, 2) := by decide +kernel
theorem dX7_commonDivisor_13 : decode cX7_commonDivisor 13 = .ok (.if_icmp .ge 31, 3) := by decide +kernel
theorem dX7_commonDivisor_16 : decode cX7_commonDivisor 16 = .ok (.lload 6, 2) := by decide +kernel
theorem dX7_commonDivisor_18 : decode cX7_commonDivisor 18 = .ok (.lconst 0, 1) := by decide +kernel
theorem dX7_commonDivisor_19 : decode cX7_commonDivisor 19 = .ok (.lcmp, 1) := by decide +kernel
theorem dX7_commonDivisor_20 : decode cX7_commonDivisor 20 = .ok (.ifCond .eq 24, 3) := by decide +kernel
theorem dX7_commonDivisor_23 : decode cX7_commonDivisor 23 = .ok (.lload 4, 2) := by decide +kernel
theorem dX7_commonDivisor_25 : decode cX7_commonDivisor 25 = .ok (.lload 6, 2) := by decide +kernel
theorem dX7_commonDivisor_27 : decode cX7_commonDivisor 27 = .ok (.lrem, 1) := by decide +kernel
theorem dX7_commonDivisor_28 : decode cX7_commonDivisor 28 = .ok (.lstore 9, 2) := by decide +kernel
theorem dX7_commonDivisor_30 : decode cX7_commonDivisor 30 = .ok (.lload 6, 2) := by decide +kernel
theorem dX7_commonDivisor_32 : decode cX7_commonDivisor 32 = .ok (.lstore 4, 2) := by decide +kernel
theorem dX7_commonDivisor_34 : decode cX7_commonDivisor 34 = .ok (.lload 9, 2) := by decide +kernel
theorem dX7_commonDivisor_36 : decode cX7_commonDivisor 36 = .ok (.lstore 6, 2) := by decide +kernel
theorem dX7_commonDivisor_38 : decode cX7_commonDivisor 38 = .ok (.iinc 8 1, 3) := by decide +kernel
theorem dX7_commonDivisor_41 : decode cX7_commonDivisor 41 = .ok (.goto (-32), 3) := by decide +kernel
theorem dX7_commonDivisor_44 : decode cX7_commonDivisor 44 = .ok (.lconst 1, 1) := by decide +kernel
theorem dX7_commonDivisor_45 : decode cX7_commonDivisor 45 = .ok (.lload 4, 2) := by decide +kernel
theorem dX7_commonDivisor_47 : decode cX7_commonDivisor 47 = .ok (.invokestatic 208, 3) := by decide +kernel
theorem dX7_commonDivisor_50 : decode cX7_commonDivisor 50 = .ok (.lreturn, 1) := by decide +kernel
abbrev po_X7_commonDivisor (cI cJ : ClassId) (Q : Int → Prop) : Option Value → va_W → Prop := fun rv w1 => ∃ (r0 : Int), rv = some (.long (i64 r0)) ∧ w1 = [] ∧ r64 r0 ∧ Q r0
def wp_X7_commonDivisor_44 (Q : Int → Prop) (l4 : Int) : Prop := Q (max 1 l4)
set_option maxHeartbeats 4000000 in
set_option maxRecDepth 100000 in
theorem s_X7_commonDivisor_44 {X : Cx} (g : Gd X cX7_commonDivisor RX7 (some .long) 11) (hR : X.R = rmL 2 0 0) (Q : Int → Prop) (hF : FQ X 0 0 (po_X7_commonDivisor X.cI X.cJ Q)) : ∀ (l4 : Int), r64 l4 → wp_X7_commonDivisor_44 Q l4 → Wat X 0 0 44 [(4, .long (i64 l4))] [] [] := by
  intro l4 r_l4 h
  rw [wp_X7_commonDivisor_44] at h
  refine q_lconst g 1 1 rfl dX7_commonDivisor_44 ?_
  refine q_lload g 4 0 rfl dX7_commonDivisor_45 ?_
  refine q_mmaxL g 208 (r64_lit _ (by decide)) r_l4 wM_X7_208 wT_J9_max_f86c9 wZ_J9 wC_J9_max_f86c9 (by rw [hR]; exact ⟨by show 1 ≤ 2; omega, by show 100 ≤ 100 * 2; omega, Nat.le_refl _, Nat.le_refl _⟩) (Nat.le_of_ble_eq_true rfl) dX7_commonDivisor_47 ?_
  exact q_lret g hF ⟨(max 1 l4), rfl, rfl, (r64_max (r64_lit _ (by decide)) r_l4), h⟩ dX7_commonDivisor_50
def wp_X7_commonDivisor_9 (Q : Int → Prop) : Nat → Int → Int → Int → Prop
  | 0, _, _, _ => False
  | n + 1, l4, l6, l8 => ((100 ≤ l8 → wp_X7_commonDivisor_44 Q l4) ∧
  (¬ (100 ≤ l8) → ((l6 = 0 → wp_X7_commonDivisor_44 Q l4) ∧
  (¬ (l6 = 0) → (0 < l6 ∧ ∀ x28 : Int, x28 = (l4.tmod l6) → r32 (l8 + 1) ∧ wp_X7_commonDivisor_9 Q n l6 x28 (l8 + 1))))))
set_option maxHeartbeats 4000000 in
set_option maxRecDepth 100000 in
theorem s_X7_commonDivisor_9 {X : Cx} (g : Gd X cX7_commonDivisor RX7 (some .long) 11) (hR : X.R = rmL 2 0 0) (Q : Int → Prop) (hF : FQ X 0 0 (po_X7_commonDivisor X.cI X.cJ Q)) : ∀ (n : Nat) (l4 : Int) (l6 : Int) (l8 : Int), r64 l4 → r64 l6 → r32 l8 → wp_X7_commonDivisor_9 Q n l4 l6 l8 → Wat X 0 0 9 [(4, .long (i64 l4)), (6, .long (i64 l6)), (8, .int (i32 l8))] [] [] := by
  intro n
  induction n with
  | zero => intro l4 l6 l8 r_l4 r_l6 r_l8 h; exact False.elim h
  | succ n ih =>
    intro l4 l6 l8 r_l4 r_l6 r_l8 h
    rw [wp_X7_commonDivisor_9] at h
    refine q_iload g 8 2 rfl dX7_commonDivisor_9 ?_
    refine q_bipush g (100) (by decide) (by decide) dX7_commonDivisor_11 ?_
    refine q_icmp_ge g (31) 44 r_l8 (r32_lit _ (by decide)) (by decide) dX7_commonDivisor_13 (fun b13 => ?_) (fun b13 => ?_)
    · replace h := h.1 b13
      refine q_lv (lv' := [(4, .long (i64 l4))]) [0] rfl ?_
      exact s_X7_commonDivisor_44 g hR Q hF l4 r_l4 h
    replace h := h.2 b13
    refine q_lload g 6 1 rfl dX7_commonDivisor_16 ?_
    refine q_lconst g 0 0 rfl dX7_commonDivisor_18 ?_
    refine q_lcmp_eq g (24) 44 r_l6 (r64_lit _ (by decide)) (by decide) dX7_commonDivisor_19 dX7_commonDivisor_20 (fun b19 => ?_) (fun b19 => ?_)
    · replace h := h.1 b19
      refine q_lv (lv' := [(4, .long (i64 l4))]) [0] rfl ?_
      exact s_X7_commonDivisor_44 g hR Q hF l4 r_l4 h
    replace h := h.2 b19
    refine q_lload g 4 0 rfl dX7_commonDivisor_23 ?_
    refine q_lload g 6 1 rfl dX7_commonDivisor_25 ?_
    obtain ⟨c27, h⟩ := h
    refine q_lrem g r_l4 r_l6 (ne_of_pos c27) dX7_commonDivisor_27 ?_
    refine q_topl (r64_tmod r_l4 r_l6 (ne_of_pos c27)) (fun x28 ex28 rx28 => ?_)
    replace h := h x28 ex28
    refine q_lstore (lv' := [(9, .long (i64 x28)), (4, .long (i64 l4)), (6, .long (i64 l6)), (8, .int (i32 l8))]) g 9   (by decide) rfl dX7_commonDivisor_28 ?_
    refine q_lload g 6 2 rfl dX7_commonDivisor_30 ?_
    refine q_lstore (lv' := [(4, .long (i64 l6)), (9, .long (i64 x28)), (6, .long (i64 l6)), (8, .int (i32 l8))]) g 4   (by decide) rfl dX7_commonDivisor_32 ?_
    refine q_lload g 9 1 rfl dX7_commonDivisor_34 ?_
    refine q_lstore (lv' := [(6, .long (i64 x28)), (4, .long (i64 l6)), (9, .long (i64 x28)), (8, .int (i32 l8))]) g 6   (by decide) rfl dX7_commonDivisor_36 ?_
    obtain ⟨c38, h⟩ := h
    refine q_iinc (lv' := [(8, .int (i32 (l8 + 1))), (6, .long (i64 x28)), (4, .long (i64 l6)), (9, .long (i64 x28))]) g 8 3 1 (by decide) rfl rfl dX7_commonDivisor_38 ?_
    refine q_goto g (-32) 9 (by decide) dX7_commonDivisor_41 ?_
    refine q_lv (lv' := [(4, .long (i64 l6)), (6, .long (i64 x28)), (8, .int (i32 (l8 + 1)))]) [2, 1, 0] rfl ?_
    exact ih l6 x28 (l8 + 1) r_l6 rx28 c38 h
def wp_X7_commonDivisor (Q : Int → Prop) (l0 : Int) (l2 : Int) : Prop := (∃ n0 : Nat, wp_X7_commonDivisor_9 Q n0 l0 l2 0)
set_option maxHeartbeats 4000000 in
set_option maxRecDepth 100000 in
theorem c_X7_commonDivisor (l : Launch) (D : va_G) (cI cJ : ClassId) (zt : Nat) (l0 : Int) (l2 : Int) (Q : Int → Prop) (r_l0 : r64 l0) (r_l2 : r64 l2) (h : wp_X7_commonDivisor Q l0 l2) : Ct l D cI cJ zt yX7_commonDivisor cX7_commonDivisor 11 (some .long) 2 0 0 [.long (i64 l0), .long (i64 l2)] [] (po_X7_commonDivisor cI cJ Q) := by
  refine ct_of (by decide +kernel) (Nat.le_of_ble_eq_true rfl) (fun X hl hDD hcI hcJ hzt hR hF hnm g => ?_)
  subst hl; subst hDD; subst hcI; subst hcJ; subst hzt
  show Wat X 0 0 0 [(0, .long (i64 l0)), (2, .long (i64 l2))] [] []
  replace g : Gd X cX7_commonDivisor RX7 (some .long) 11 := g
  rw [wp_X7_commonDivisor] at h
  refine q_lload_n g 0 0 rfl dX7_commonDivisor_0 ?_
  refine q_lstore (lv' := [(4, .long (i64 l0)), (0, .long (i64 l0)), (2, .long (i64 l2))]) g 4   (by decide) rfl dX7_commonDivisor_1 ?_
  refine q_lload_n g 2 2 rfl dX7_commonDivisor_3 ?_
  refine q_lstore (lv' := [(6, .long (i64 l2)), (4, .long (i64 l0)), (0, .long (i64 l0)), (2, .long (i64 l2))]) g 6   (by decide) rfl dX7_commonDivisor_4 ?_
  refine q_iconst g (0) dX7_commonDivisor_6 ?_
  refine q_istore (lv' := [(8, .int (i32 0)), (6, .long (i64 l2)), (4, .long (i64 l0)), (0, .long (i64 l0)), (2, .long (i64 l2))]) g 8   (by decide) rfl dX7_commonDivisor_7 ?_
  refine q_lv (lv' := [(4, .long (i64 l0)), (6, .long (i64 l2)), (8, .int (i32 0))]) [2, 1, 0] rfl ?_
  obtain ⟨n0, h⟩ := h
  exact s_X7_commonDivisor_9 g hR Q hF n0 l0 l2 0 r_l0 r_l2 (r32_lit _ (by decide)) h
theorem dX7_inverse_0 : decode cX7_inverse 0 = .ok (.lload_n 2, 1) := by decide +kernel
theorem dX7_inverse_1 : decode cX7_inverse 1 = .ok (.lconst 1, 1) := by decide +kernel
theorem dX7_inverse_2 : decode cX7_inverse 2 = .ok (.lcmp, 1) := by decide +kernel
theorem dX7_inverse_3 : decode cX7_inverse 3 = .ok (.ifCond .ge 5, 3) := by decide +kernel
theorem dX7_inverse_6 : decode cX7_inverse 6 = .ok (.lconst 0, 1) := by decide +kernel
theorem dX7_inverse_7 : decode cX7_inverse 7 = .ok (.lreturn, 1) := by decide +kernel
theorem dX7_inverse_8 : decode cX7_inverse 8 = .ok (.lload_n 0, 1) := by decide +kernel
theorem dX7_inverse_9 : decode cX7_inverse 9 = .ok (.lload_n 2, 1) := by decide +kernel
theorem dX7_inverse_10 : decode cX7_inverse 10 = .ok (.lrem, 1) := by decide +kernel
theorem dX7_inverse_11 : decode cX7_inverse 11 = .ok (.lstore 4, 2) := by decide +kernel
theorem dX7_inverse_13 : decode cX7_inverse 13 = .ok (.lload_n 2, 1) := by decide +kernel
theorem dX7_inverse_14 : decode cX7_inverse 14 = .ok (.lstore 6, 2) := by decide +kernel
theorem dX7_inverse_16 : decode cX7_inverse 16 = .ok (.lconst 1, 1) := by decide +kernel
theorem dX7_inverse_17 : decode cX7_inverse 17 = .ok (.lstore 8, 2) := by decide +kernel
theorem dX7_inverse_19 : decode cX7_inverse 19 = .ok (.lconst 0, 1) := by decide +kernel
theorem dX7_inverse_20 : decode cX7_inverse 20 = .ok (.lstore 10, 2) := by decide +kernel
theorem dX7_inverse_22 : decode cX7_inverse 22 = .ok (.iconst 0, 1) := by decide +kernel
theorem dX7_inverse_23 : decode cX7_inverse 23 = .ok (.istore 12, 2) := by decide +kernel
theorem dX7_inverse_25 : decode cX7_inverse 25 = .ok (.iload 12, 2) := by decide +kernel
theorem dX7_inverse_27 : decode cX7_inverse 27 = .ok (.bipush 100, 2) := by decide +kernel
theorem dX7_inverse_29 : decode cX7_inverse 29 = .ok (.if_icmp .ge 59, 3) := by decide +kernel
theorem dX7_inverse_32 : decode cX7_inverse 32 = .ok (.lload 4, 2) := by decide +kernel
theorem dX7_inverse_34 : decode cX7_inverse 34 = .ok (.lconst 0, 1) := by decide +kernel
theorem dX7_inverse_35 : decode cX7_inverse 35 = .ok (.lcmp, 1) := by decide +kernel
theorem dX7_inverse_36 : decode cX7_inverse 36 = .ok (.ifCond .le 52, 3) := by decide +kernel
theorem dX7_inverse_39 : decode cX7_inverse 39 = .ok (.lload 6, 2) := by decide +kernel
theorem dX7_inverse_41 : decode cX7_inverse 41 = .ok (.lload 4, 2) := by decide +kernel
theorem dX7_inverse_43 : decode cX7_inverse 43 = .ok (.ldiv, 1) := by decide +kernel
theorem dX7_inverse_44 : decode cX7_inverse 44 = .ok (.lstore 13, 2) := by decide +kernel
theorem dX7_inverse_46 : decode cX7_inverse 46 = .ok (.lload 6, 2) := by decide +kernel
theorem dX7_inverse_48 : decode cX7_inverse 48 = .ok (.lload 13, 2) := by decide +kernel
theorem dX7_inverse_50 : decode cX7_inverse 50 = .ok (.lload 4, 2) := by decide +kernel
theorem dX7_inverse_52 : decode cX7_inverse 52 = .ok (.lmul, 1) := by decide +kernel
theorem dX7_inverse_53 : decode cX7_inverse 53 = .ok (.lsub, 1) := by decide +kernel
theorem dX7_inverse_54 : decode cX7_inverse 54 = .ok (.lstore 15, 2) := by decide +kernel
theorem dX7_inverse_56 : decode cX7_inverse 56 = .ok (.lload 10, 2) := by decide +kernel
theorem dX7_inverse_58 : decode cX7_inverse 58 = .ok (.lload 13, 2) := by decide +kernel
theorem dX7_inverse_60 : decode cX7_inverse 60 = .ok (.lload 8, 2) := by decide +kernel
theorem dX7_inverse_62 : decode cX7_inverse 62 = .ok (.lmul, 1) := by decide +kernel
theorem dX7_inverse_63 : decode cX7_inverse 63 = .ok (.lsub, 1) := by decide +kernel
theorem dX7_inverse_64 : decode cX7_inverse 64 = .ok (.lstore 17, 2) := by decide +kernel
theorem dX7_inverse_66 : decode cX7_inverse 66 = .ok (.lload 4, 2) := by decide +kernel
theorem dX7_inverse_68 : decode cX7_inverse 68 = .ok (.lstore 6, 2) := by decide +kernel
theorem dX7_inverse_70 : decode cX7_inverse 70 = .ok (.lload 8, 2) := by decide +kernel
theorem dX7_inverse_72 : decode cX7_inverse 72 = .ok (.lstore 10, 2) := by decide +kernel
theorem dX7_inverse_74 : decode cX7_inverse 74 = .ok (.lload 15, 2) := by decide +kernel
theorem dX7_inverse_76 : decode cX7_inverse 76 = .ok (.lstore 4, 2) := by decide +kernel
theorem dX7_inverse_78 : decode cX7_inverse 78 = .ok (.lload 17, 2) := by decide +kernel
theorem dX7_inverse_80 : decode cX7_inverse 80 = .ok (.lstore 8, 2) := by decide +kernel
theorem dX7_inverse_82 : decode cX7_inverse 82 = .ok (.iinc 12 1, 3) := by decide +kernel
theorem dX7_inverse_85 : decode cX7_inverse 85 = .ok (.goto (-60), 3) := by decide +kernel
theorem dX7_inverse_88 : decode cX7_inverse 88 = .ok (.lload 10, 2) := by decide +kernel
theorem dX7_inverse_90 : decode cX7_inverse 90 = .ok (.lload_n 2, 1) := by decide +kernel
theorem dX7_inverse_91 : decode cX7_inverse 91 = .ok (.invokestatic 213, 3) := by decide +kernel
theorem dX7_inverse_94 : decode cX7_inverse 94 = .ok (.lreturn, 1) := by decide +kernel
abbrev po_X7_inverse (cI cJ : ClassId) (Q : Int → Prop) : Option Value → va_W → Prop := fun rv w1 => ∃ (r0 : Int), rv = some (.long (i64 r0)) ∧ w1 = [] ∧ r64 r0 ∧ Q r0
def wp_X7_inverse_88 (Q : Int → Prop) (l2 : Int) (l10 : Int) : Prop := (0 < l2 ∧ Q (l10 % l2))
set_option maxHeartbeats 4000000 in
set_option maxRecDepth 100000 in
theorem s_X7_inverse_88 {X : Cx} (g : Gd X cX7_inverse RX7 (some .long) 19) (hR : X.R = rmL 2 0 0) (Q : Int → Prop) (hF : FQ X 0 0 (po_X7_inverse X.cI X.cJ Q)) : ∀ (l2 : Int) (l10 : Int), r64 l2 → r64 l10 → wp_X7_inverse_88 Q l2 l10 → Wat X 0 0 88 [(2, .long (i64 l2)), (10, .long (i64 l10))] [] [] := by
  intro l2 l10 r_l2 r_l10 h
  rw [wp_X7_inverse_88] at h
  refine q_lload g 10 1 rfl dX7_inverse_88 ?_
  refine q_lload_n g 2 0 rfl dX7_inverse_90 ?_
  obtain ⟨c91, h⟩ := h
  refine q_fmod g 213 r_l10 r_l2 c91 wM_X7_213 wT_J9_floorMod_f86c9 wZ_J9 wC_J9_floorMod_f86c9 (by rw [hR]; exact ⟨by show 1 ≤ 2; omega, by show 100 ≤ 100 * 2; omega, Nat.le_refl _, Nat.le_refl _⟩) (Nat.le_of_ble_eq_true rfl) dX7_inverse_91 ?_
  exact q_lret g hF ⟨(l10 % l2), rfl, rfl, (r64_emod r_l2 c91), h⟩ dX7_inverse_94
def wp_X7_inverse_25 (Q : Int → Prop) : Nat → Int → Int → Int → Int → Int → Int → Prop
  | 0, _, _, _, _, _, _ => False
  | n + 1, l2, l4, l6, l8, l10, l12 => ((100 ≤ l12 → wp_X7_inverse_88 Q l2 l10) ∧
  (¬ (100 ≤ l12) → ((l4 ≤ 0 → wp_X7_inverse_88 Q l2 l10) ∧
  (¬ (l4 ≤ 0) → (0 < l4 ∧ ∀ x44 : Int, x44 = (l6.tdiv l4) → r64 (x44 * l4) ∧ r64 (l6 - (x44 * l4)) ∧ ∀ x54 : Int, x54 = (l6 - (x44 * l4)) → r64 (x44 * l8) ∧ r64 (l10 - (x44 * l8)) ∧ ∀ x64 : Int, x64 = (l10 - (x44 * l8)) → r32 (l12 + 1) ∧ wp_X7_inverse_25 Q n l2 x54 l4 x64 l8 (l12 + 1))))))
set_option maxHeartbeats 4000000 in
set_option maxRecDepth 100000 in
theorem s_X7_inverse_25 {X : Cx} (g : Gd X cX7_inverse RX7 (some .long) 19) (hR : X.R = rmL 2 0 0) (Q : Int → Prop) (hF : FQ X 0 0 (po_X7_inverse X.cI X.cJ Q)) : ∀ (n : Nat) (l2 : Int) (l4 : Int) (l6 : Int) (l8 : Int) (l10 : Int) (l12 : Int), r64 l2 → r64 l4 → r64 l6 → r64 l8 → r64 l10 → r32 l12 → wp_X7_inverse_25 Q n l2 l4 l6 l8 l10 l12 → Wat X 0 0 25 [(2, .long (i64 l2)), (4, .long (i64 l4)), (6, .long (i64 l6)), (8, .long (i64 l8)), (10, .long (i64 l10)), (12, .int (i32 l12))] [] [] := by
  intro n
  induction n with
  | zero => intro l2 l4 l6 l8 l10 l12 r_l2 r_l4 r_l6 r_l8 r_l10 r_l12 h; exact False.elim h
  | succ n ih =>
    intro l2 l4 l6 l8 l10 l12 r_l2 r_l4 r_l6 r_l8 r_l10 r_l12 h
    rw [wp_X7_inverse_25] at h
    refine q_iload g 12 5 rfl dX7_inverse_25 ?_
    refine q_bipush g (100) (by decide) (by decide) dX7_inverse_27 ?_
    refine q_icmp_ge g (59) 88 r_l12 (r32_lit _ (by decide)) (by decide) dX7_inverse_29 (fun b29 => ?_) (fun b29 => ?_)
    · replace h := h.1 b29
      refine q_lv (lv' := [(2, .long (i64 l2)), (10, .long (i64 l10))]) [0, 4] rfl ?_
      exact s_X7_inverse_88 g hR Q hF l2 l10 r_l2 r_l10 h
    replace h := h.2 b29
    refine q_lload g 4 1 rfl dX7_inverse_32 ?_
    refine q_lconst g 0 0 rfl dX7_inverse_34 ?_
    refine q_lcmp_le g (52) 88 r_l4 (r64_lit _ (by decide)) (by decide) dX7_inverse_35 dX7_inverse_36 (fun b35 => ?_) (fun b35 => ?_)
    · replace h := h.1 b35
      refine q_lv (lv' := [(2, .long (i64 l2)), (10, .long (i64 l10))]) [0, 4] rfl ?_
      exact s_X7_inverse_88 g hR Q hF l2 l10 r_l2 r_l10 h
    replace h := h.2 b35
    refine q_lload g 6 2 rfl dX7_inverse_39 ?_
    refine q_lload g 4 1 rfl dX7_inverse_41 ?_
    obtain ⟨c43, h⟩ := h
    refine q_ldiv g r_l6 r_l4 (ne_of_pos c43) dX7_inverse_43 ?_
    refine q_topl (r64_tdiv r_l6 c43) (fun x44 ex44 rx44 => ?_)
    replace h := h x44 ex44
    refine q_lstore (lv' := [(13, .long (i64 x44)), (2, .long (i64 l2)), (4, .long (i64 l4)), (6, .long (i64 l6)), (8, .long (i64 l8)), (10, .long (i64 l10)), (12, .int (i32 l12))]) g 13   (by decide) rfl dX7_inverse_44 ?_
    refine q_lload g 6 3 rfl dX7_inverse_46 ?_
    refine q_lload g 13 0 rfl dX7_inverse_48 ?_
    refine q_lload g 4 2 rfl dX7_inverse_50 ?_
    obtain ⟨c52, h⟩ := h
    refine q_lmul g dX7_inverse_52 ?_
    obtain ⟨c53, h⟩ := h
    refine q_lsub g dX7_inverse_53 ?_
    refine q_topl c53 (fun x54 ex54 rx54 => ?_)
    replace h := h x54 ex54
    refine q_lstore (lv' := [(15, .long (i64 x54)), (13, .long (i64 x44)), (2, .long (i64 l2)), (4, .long (i64 l4)), (6, .long (i64 l6)), (8, .long (i64 l8)), (10, .long (i64 l10)), (12, .int (i32 l12))]) g 15   (by decide) rfl dX7_inverse_54 ?_
    refine q_lload g 10 6 rfl dX7_inverse_56 ?_
    refine q_lload g 13 1 rfl dX7_inverse_58 ?_
    refine q_lload g 8 5 rfl dX7_inverse_60 ?_
    obtain ⟨c62, h⟩ := h
    refine q_lmul g dX7_inverse_62 ?_
    obtain ⟨c63, h⟩ := h
    refine q_lsub g dX7_inverse_63 ?_
    refine q_topl c63 (fun x64 ex64 rx64 => ?_)
    replace h := h x64 ex64
    refine q_lstore (lv' := [(17, .long (i64 x64)), (15, .long (i64 x54)), (13, .long (i64 x44)), (2, .long (i64 l2)), (4, .long (i64 l4)), (6, .long (i64 l6)), (8, .long (i64 l8)), (10, .long (i64 l10)), (12, .int (i32 l12))]) g 17   (by decide) rfl dX7_inverse_64 ?_
    refine q_lload g 4 4 rfl dX7_inverse_66 ?_
    refine q_lstore (lv' := [(6, .long (i64 l4)), (17, .long (i64 x64)), (15, .long (i64 x54)), (13, .long (i64 x44)), (2, .long (i64 l2)), (4, .long (i64 l4)), (8, .long (i64 l8)), (10, .long (i64 l10)), (12, .int (i32 l12))]) g 6   (by decide) rfl dX7_inverse_68 ?_
    refine q_lload g 8 6 rfl dX7_inverse_70 ?_
    refine q_lstore (lv' := [(10, .long (i64 l8)), (6, .long (i64 l4)), (17, .long (i64 x64)), (15, .long (i64 x54)), (13, .long (i64 x44)), (2, .long (i64 l2)), (4, .long (i64 l4)), (8, .long (i64 l8)), (12, .int (i32 l12))]) g 10   (by decide) rfl dX7_inverse_72 ?_
    refine q_lload g 15 3 rfl dX7_inverse_74 ?_
    refine q_lstore (lv' := [(4, .long (i64 x54)), (10, .long (i64 l8)), (6, .long (i64 l4)), (17, .long (i64 x64)), (15, .long (i64 x54)), (13, .long (i64 x44)), (2, .long (i64 l2)), (8, .long (i64 l8)), (12, .int (i32 l12))]) g 4   (by decide) rfl dX7_inverse_76 ?_
    refine q_lload g 17 3 rfl dX7_inverse_78 ?_
    refine q_lstore (lv' := [(8, .long (i64 x64)), (4, .long (i64 x54)), (10, .long (i64 l8)), (6, .long (i64 l4)), (17, .long (i64 x64)), (15, .long (i64 x54)), (13, .long (i64 x44)), (2, .long (i64 l2)), (12, .int (i32 l12))]) g 8   (by decide) rfl dX7_inverse_80 ?_
    obtain ⟨c82, h⟩ := h
    refine q_iinc (lv' := [(12, .int (i32 (l12 + 1))), (8, .long (i64 x64)), (4, .long (i64 x54)), (10, .long (i64 l8)), (6, .long (i64 l4)), (17, .long (i64 x64)), (15, .long (i64 x54)), (13, .long (i64 x44)), (2, .long (i64 l2))]) g 12 8 1 (by decide) rfl rfl dX7_inverse_82 ?_
    refine q_goto g (-60) 25 (by decide) dX7_inverse_85 ?_
    refine q_lv (lv' := [(2, .long (i64 l2)), (4, .long (i64 x54)), (6, .long (i64 l4)), (8, .long (i64 x64)), (10, .long (i64 l8)), (12, .int (i32 (l12 + 1)))]) [8, 2, 4, 1, 3, 0] rfl ?_
    exact ih l2 x54 l4 x64 l8 (l12 + 1) r_l2 rx54 r_l4 rx64 r_l8 c82 h
def wp_X7_inverse (Q : Int → Prop) (l0 : Int) (l2 : Int) : Prop := ((1 ≤ l2 → (0 < l2 ∧ ∀ x11 : Int, x11 = (l0.tmod l2) → (∃ n0 : Nat, wp_X7_inverse_25 Q n0 l2 x11 l2 1 0 0))) ∧
  (¬ (1 ≤ l2) → Q 0))
set_option maxHeartbeats 4000000 in
set_option maxRecDepth 100000 in
theorem c_X7_inverse (l : Launch) (D : va_G) (cI cJ : ClassId) (zt : Nat) (l0 : Int) (l2 : Int) (Q : Int → Prop) (r_l0 : r64 l0) (r_l2 : r64 l2) (h : wp_X7_inverse Q l0 l2) : Ct l D cI cJ zt yX7_inverse cX7_inverse 19 (some .long) 2 0 0 [.long (i64 l0), .long (i64 l2)] [] (po_X7_inverse cI cJ Q) := by
  refine ct_of (by decide +kernel) (Nat.le_of_ble_eq_true rfl) (fun X hl hDD hcI hcJ hzt hR hF hnm g => ?_)
  subst hl; subst hDD; subst hcI; subst hcJ; subst hzt
  show Wat X 0 0 0 [(0, .long (i64 l0)), (2, .long (i64 l2))] [] []
  replace g : Gd X cX7_inverse RX7 (some .long) 19 := g
  rw [wp_X7_inverse] at h
  refine q_lload_n g 2 1 rfl dX7_inverse_0 ?_
  refine q_lconst g 1 1 rfl dX7_inverse_1 ?_
  refine q_lcmp_ge g (5) 8 r_l2 (r64_lit _ (by decide)) (by decide) dX7_inverse_2 dX7_inverse_3 (fun b2 => ?_) (fun b2 => ?_)
  · replace h := h.1 b2
    refine q_lload_n g 0 0 rfl dX7_inverse_8 ?_
    refine q_lload_n g 2 1 rfl dX7_inverse_9 ?_
    obtain ⟨c10, h⟩ := h
    refine q_lrem g r_l0 r_l2 (ne_of_pos c10) dX7_inverse_10 ?_
    refine q_topl (r64_tmod r_l0 r_l2 (ne_of_pos c10)) (fun x11 ex11 rx11 => ?_)
    replace h := h x11 ex11
    refine q_lstore (lv' := [(4, .long (i64 x11)), (0, .long (i64 l0)), (2, .long (i64 l2))]) g 4   (by decide) rfl dX7_inverse_11 ?_
    refine q_lload_n g 2 2 rfl dX7_inverse_13 ?_
    refine q_lstore (lv' := [(6, .long (i64 l2)), (4, .long (i64 x11)), (0, .long (i64 l0)), (2, .long (i64 l2))]) g 6   (by decide) rfl dX7_inverse_14 ?_
    refine q_lconst g 1 1 rfl dX7_inverse_16 ?_
    refine q_lstore (lv' := [(8, .long (i64 1)), (6, .long (i64 l2)), (4, .long (i64 x11)), (0, .long (i64 l0)), (2, .long (i64 l2))]) g 8   (by decide) rfl dX7_inverse_17 ?_
    refine q_lconst g 0 0 rfl dX7_inverse_19 ?_
    refine q_lstore (lv' := [(10, .long (i64 0)), (8, .long (i64 1)), (6, .long (i64 l2)), (4, .long (i64 x11)), (0, .long (i64 l0)), (2, .long (i64 l2))]) g 10   (by decide) rfl dX7_inverse_20 ?_
    refine q_iconst g (0) dX7_inverse_22 ?_
    refine q_istore (lv' := [(12, .int (i32 0)), (10, .long (i64 0)), (8, .long (i64 1)), (6, .long (i64 l2)), (4, .long (i64 x11)), (0, .long (i64 l0)), (2, .long (i64 l2))]) g 12   (by decide) rfl dX7_inverse_23 ?_
    refine q_lv (lv' := [(2, .long (i64 l2)), (4, .long (i64 x11)), (6, .long (i64 l2)), (8, .long (i64 1)), (10, .long (i64 0)), (12, .int (i32 0))]) [6, 4, 3, 2, 1, 0] rfl ?_
    obtain ⟨n0, h⟩ := h
    exact s_X7_inverse_25 g hR Q hF n0 l2 x11 l2 1 0 0 r_l2 rx11 r_l2 (r64_lit _ (by decide)) (r64_lit _ (by decide)) (r32_lit _ (by decide)) h
  replace h := h.2 b2
  refine q_lconst g 0 0 rfl dX7_inverse_6 ?_
  exact q_lret g hF ⟨0, rfl, rfl, (r64_lit _ (by decide)), h⟩ dX7_inverse_7
theorem dX7_isRegister_0 : decode cX7_isRegister 0 = .ok (.iload_n 0, 1) := by decide +kernel
theorem dX7_isRegister_1 : decode cX7_isRegister 1 = .ok (.ifCond .lt 13, 3) := by decide +kernel
theorem dX7_isRegister_4 : decode cX7_isRegister 4 = .ok (.iload_n 0, 1) := by decide +kernel
theorem dX7_isRegister_5 : decode cX7_isRegister 5 = .ok (.bipush 8, 2) := by decide +kernel
theorem dX7_isRegister_7 : decode cX7_isRegister 7 = .ok (.if_icmp .ge 7, 3) := by decide +kernel
theorem dX7_isRegister_10 : decode cX7_isRegister 10 = .ok (.iconst 1, 1) := by decide +kernel
theorem dX7_isRegister_11 : decode cX7_isRegister 11 = .ok (.goto 4, 3) := by decide +kernel
theorem dX7_isRegister_14 : decode cX7_isRegister 14 = .ok (.iconst 0, 1) := by decide +kernel
theorem dX7_isRegister_15 : decode cX7_isRegister 15 = .ok (.ireturn, 1) := by decide +kernel
abbrev po_X7_isRegister (cI cJ : ClassId) (Q : Int → Prop) : Option Value → va_W → Prop := fun rv w1 => ∃ (r0 : Int), rv = some (.int (i32 r0)) ∧ w1 = [] ∧ r32 r0 ∧ Q r0
def wp_X7_isRegister_15 (Q : Int → Prop) (k0 : Int) : Prop := ((k0 = 0 ∨ k0 = 1) ∧ Q k0)
set_option maxHeartbeats 4000000 in
set_option maxRecDepth 100000 in
theorem s_X7_isRegister_15 {X : Cx} (g : Gd X cX7_isRegister RX7 (some .boolean) 1) (hR : X.R = rmL 1 0 0) (Q : Int → Prop) (hF : FQ X 0 0 (po_X7_isRegister X.cI X.cJ Q)) : ∀ (k0 : Int), r32 k0 → wp_X7_isRegister_15 Q k0 → Wat X 0 0 15 [] [.int (i32 k0)] [] := by
  intro k0 r_k0 h
  rw [wp_X7_isRegister_15] at h
  obtain ⟨z15, h⟩ := h
  exact q_zret g hF z15 ⟨k0, rfl, rfl, r_k0, h⟩ dX7_isRegister_15
def wp_X7_isRegister_14 (Q : Int → Prop) : Prop := wp_X7_isRegister_15 Q 0
set_option maxHeartbeats 4000000 in
set_option maxRecDepth 100000 in
theorem s_X7_isRegister_14 {X : Cx} (g : Gd X cX7_isRegister RX7 (some .boolean) 1) (hR : X.R = rmL 1 0 0) (Q : Int → Prop) (hF : FQ X 0 0 (po_X7_isRegister X.cI X.cJ Q)) : wp_X7_isRegister_14 Q → Wat X 0 0 14 [] [] [] := by
  intro h
  rw [wp_X7_isRegister_14] at h
  refine q_iconst g (0) dX7_isRegister_14 ?_
  exact s_X7_isRegister_15 g hR Q hF 0 (r32_lit _ (by decide)) h
def wp_X7_isRegister (Q : Int → Prop) (l0 : Int) : Prop := ((l0 < 0 → wp_X7_isRegister_14 Q) ∧
  (¬ (l0 < 0) → ((8 ≤ l0 → wp_X7_isRegister_14 Q) ∧
  (¬ (8 ≤ l0) → wp_X7_isRegister_15 Q 1))))
set_option maxHeartbeats 4000000 in
set_option maxRecDepth 100000 in
theorem c_X7_isRegister (l : Launch) (D : va_G) (cI cJ : ClassId) (zt : Nat) (l0 : Int) (Q : Int → Prop) (r_l0 : r32 l0) (h : wp_X7_isRegister Q l0) : Ct l D cI cJ zt yX7_isRegister cX7_isRegister 1 (some .boolean) 1 0 0 [.int (i32 l0)] [] (po_X7_isRegister cI cJ Q) := by
  refine ct_of (by decide +kernel) (Nat.le_of_ble_eq_true rfl) (fun X hl hDD hcI hcJ hzt hR hF hnm g => ?_)
  subst hl; subst hDD; subst hcI; subst hcJ; subst hzt
  show Wat X 0 0 0 [(0, .int (i32 l0))] [] []
  replace g : Gd X cX7_isRegister RX7 (some .boolean) 1 := g
  rw [wp_X7_isRegister] at h
  refine q_iload_n g 0 0 rfl dX7_isRegister_0 ?_
  refine q_if_lt g (13) 14 r_l0 (by decide) dX7_isRegister_1 (fun b1 => ?_) (fun b1 => ?_)
  · replace h := h.1 b1
    refine q_lv (lv' := []) [] rfl ?_
    exact s_X7_isRegister_14 g hR Q hF h
  replace h := h.2 b1
  refine q_iload_n g 0 0 rfl dX7_isRegister_4 ?_
  refine q_bipush g (8) (by decide) (by decide) dX7_isRegister_5 ?_
  refine q_icmp_ge g (7) 14 r_l0 (r32_lit _ (by decide)) (by decide) dX7_isRegister_7 (fun b7 => ?_) (fun b7 => ?_)
  · replace h := h.1 b7
    refine q_lv (lv' := []) [] rfl ?_
    exact s_X7_isRegister_14 g hR Q hF h
  replace h := h.2 b7
  refine q_iconst g (1) dX7_isRegister_10 ?_
  refine q_goto g (4) 15 (by decide) dX7_isRegister_11 ?_
  refine q_lv (lv' := []) [] rfl ?_
  exact s_X7_isRegister_15 g hR Q hF 1 (r32_lit _ (by decide)) h
theorem dX7_isHandy_0 : decode cX7_isHandy 0 = .ok (.iload_n 0, 1) := by decide +kernel
theorem dX7_isHandy_1 : decode cX7_isHandy 1 = .ok (.istore_n 1, 1) := by decide +kernel
theorem dX7_isHandy_2 : decode cX7_isHandy 2 = .ok (.iconst 1, 1) := by decide +kernel
theorem dX7_isHandy_3 : decode cX7_isHandy 3 = .ok (.istore_n 2, 1) := by decide +kernel
theorem dX7_isHandy_4 : decode cX7_isHandy 4 = .ok (.iconst 2, 1) := by decide +kernel
theorem dX7_isHandy_5 : decode cX7_isHandy 5 = .ok (.istore_n 3, 1) := by decide +kernel
theorem dX7_isHandy_6 : decode cX7_isHandy 6 = .ok (.iload_n 3, 1) := by decide +kernel
theorem dX7_isHandy_7 : decode cX7_isHandy 7 = .ok (.iload_n 1, 1) := by decide +kernel
theorem dX7_isHandy_8 : decode cX7_isHandy 8 = .ok (.iload_n 3, 1) := by decide +kernel
theorem dX7_isHandy_9 : decode cX7_isHandy 9 = .ok (.idiv, 1) := by decide +kernel
theorem dX7_isHandy_10 : decode cX7_isHandy 10 = .ok (.if_icmp .gt 69, 3) := by decide +kernel
theorem dX7_isHandy_13 : decode cX7_isHandy 13 = .ok (.iload_n 1, 1) := by decide +kernel
theorem dX7_isHandy_14 : decode cX7_isHandy 14 = .ok (.iload_n 3, 1) := by decide +kernel
theorem dX7_isHandy_15 : decode cX7_isHandy 15 = .ok (.irem, 1) := by decide +kernel
theorem dX7_isHandy_16 : decode cX7_isHandy 16 = .ok (.ifCond .eq 6, 3) := by decide +kernel
theorem dX7_isHandy_19 : decode cX7_isHandy 19 = .ok (.goto 54, 3) := by decide +kernel
theorem dX7_isHandy_22 : decode cX7_isHandy 22 = .ok (.iload_n 3, 1) := by decide +kernel
theorem dX7_isHandy_23 : decode cX7_isHandy 23 = .ok (.iload_n 2, 1) := by decide +kernel
theorem dX7_isHandy_24 : decode cX7_isHandy 24 = .ok (.iconst 1, 1) := by decide +kernel
theorem dX7_isHandy_25 : decode cX7_isHandy 25 = .ok (.iadd, 1) := by decide +kernel
theorem dX7_isHandy_26 : decode cX7_isHandy 26 = .ok (.if_icmp .le 5, 3) := by decide +kernel
theorem dX7_isHandy_29 : decode cX7_isHandy 29 = .ok (.iconst 0, 1) := by decide +kernel
theorem dX7_isHandy_30 : decode cX7_isHandy 30 = .ok (.ireturn, 1) := by decide +kernel
theorem dX7_isHandy_31 : decode cX7_isHandy 31 = .ok (.iconst 1, 1) := by decide +kernel
theorem dX7_isHandy_32 : decode cX7_isHandy 32 = .ok (.istore 4, 2) := by decide +kernel
theorem dX7_isHandy_34 : decode cX7_isHandy 34 = .ok (.iconst 0, 1) := by decide +kernel
theorem dX7_isHandy_35 : decode cX7_isHandy 35 = .ok (.istore 5, 2) := by decide +kernel
theorem dX7_isHandy_37 : decode cX7_isHandy 37 = .ok (.iload 5, 2) := by decide +kernel
theorem dX7_isHandy_39 : decode cX7_isHandy 39 = .ok (.bipush 31, 2) := by decide +kernel
theorem dX7_isHandy_41 : decode cX7_isHandy 41 = .ok (.if_icmp .ge 27, 3) := by decide +kernel
theorem dX7_isHandy_44 : decode cX7_isHandy 44 = .ok (.iload_n 1, 1) := by decide +kernel
theorem dX7_isHandy_45 : decode cX7_isHandy 45 = .ok (.iload_n 3, 1) := by decide +kernel
theorem dX7_isHandy_46 : decode cX7_isHandy 46 = .ok (.irem, 1) := by decide +kernel
theorem dX7_isHandy_47 : decode cX7_isHandy 47 = .ok (.ifCond .ne 21, 3) := by decide +kernel
theorem dX7_isHandy_50 : decode cX7_isHandy 50 = .ok (.iload_n 1, 1) := by decide +kernel
theorem dX7_isHandy_51 : decode cX7_isHandy 51 = .ok (.iload_n 3, 1) := by decide +kernel
theorem dX7_isHandy_52 : decode cX7_isHandy 52 = .ok (.idiv, 1) := by decide +kernel
theorem dX7_isHandy_53 : decode cX7_isHandy 53 = .ok (.istore_n 1, 1) := by decide +kernel
theorem dX7_isHandy_54 : decode cX7_isHandy 54 = .ok (.iload 4, 2) := by decide +kernel
theorem dX7_isHandy_56 : decode cX7_isHandy 56 = .ok (.iload_n 3, 1) := by decide +kernel
theorem dX7_isHandy_57 : decode cX7_isHandy 57 = .ok (.imul, 1) := by decide +kernel
theorem dX7_isHandy_58 : decode cX7_isHandy 58 = .ok (.iconst 1, 1) := by decide +kernel
theorem dX7_isHandy_59 : decode cX7_isHandy 59 = .ok (.iadd, 1) := by decide +kernel
theorem dX7_isHandy_60 : decode cX7_isHandy 60 = .ok (.istore 4, 2) := by decide +kernel
theorem dX7_isHandy_62 : decode cX7_isHandy 62 = .ok (.iinc 5 1, 3) := by decide +kernel
theorem dX7_isHandy_65 : decode cX7_isHandy 65 = .ok (.goto (-28), 3) := by decide +kernel
theorem dX7_isHandy_68 : decode cX7_isHandy 68 = .ok (.iload_n 2, 1) := by decide +kernel
theorem dX7_isHandy_69 : decode cX7_isHandy 69 = .ok (.iload 4, 2) := by decide +kernel
theorem dX7_isHandy_71 : decode cX7_isHandy 71 = .ok (.imul, 1) := by decide +kernel
theorem dX7_isHandy_72 : decode cX7_isHandy 72 = .ok (.istore_n 2, 1) := by decide +kernel
theorem dX7_isHandy_73 : decode cX7_isHandy 73 = .ok (.iinc 3 1, 3) := by decide +kernel
theorem dX7_isHandy_76 : decode cX7_isHandy 76 = .ok (.goto (-70), 3) := by decide +kernel
theorem dX7_isHandy_79 : decode cX7_isHandy 79 = .ok (.iload_n 1, 1) := by decide +kernel
theorem dX7_isHandy_80 : decode cX7_isHandy 80 = .ok (.iload_n 2, 1) := by decide +kernel
theorem dX7_isHandy_81 : decode cX7_isHandy 81 = .ok (.iconst 1, 1) := by decide +kernel
theorem dX7_isHandy_82 : decode cX7_isHandy 82 = .ok (.iadd, 1) := by decide +kernel
theorem dX7_isHandy_83 : decode cX7_isHandy 83 = .ok (.if_icmp .gt 7, 3) := by decide +kernel
theorem dX7_isHandy_86 : decode cX7_isHandy 86 = .ok (.iconst 1, 1) := by decide +kernel
theorem dX7_isHandy_87 : decode cX7_isHandy 87 = .ok (.goto 4, 3) := by decide +kernel
theorem dX7_isHandy_90 : decode cX7_isHandy 90 = .ok (.iconst 0, 1) := by decide +kernel
theorem dX7_isHandy_91 : decode cX7_isHandy 91 = .ok (.ireturn, 1) := by decide +kernel
abbrev po_X7_isHandy (cI cJ : ClassId) (Q : Int → Prop) : Option Value → va_W → Prop := fun rv w1 => ∃ (r0 : Int), rv = some (.int (i32 r0)) ∧ w1 = [] ∧ r32 r0 ∧ Q r0
def wp_X7_isHandy_73 (Q : Int → Prop) (K_6 : Int → Int → Int → Prop) (l1 : Int) (l2 : Int) (l3 : Int) : Prop := (r32 (l3 + 1) ∧ K_6 l1 l2 (l3 + 1))
set_option maxHeartbeats 4000000 in
set_option maxRecDepth 100000 in
theorem s_X7_isHandy_73 {X : Cx} (g : Gd X cX7_isHandy RX7 (some .boolean) 6) (hR : X.R = rmL 1 0 0) (Q : Int → Prop) (hF : FQ X 0 0 (po_X7_isHandy X.cI X.cJ Q)) (K_6 : Int → Int → Int → Prop) (hK_6 : ∀ (l1 : Int) (l2 : Int) (l3 : Int), r32 l1 → r32 l2 → r32 l3 → K_6 l1 l2 l3 → Wat X 0 0 6 [(1, .int (i32 l1)), (2, .int (i32 l2)), (3, .int (i32 l3))] [] []) : ∀ (l1 : Int) (l2 : Int) (l3 : Int), r32 l1 → r32 l2 → r32 l3 → wp_X7_isHandy_73 Q K_6 l1 l2 l3 → Wat X 0 0 73 [(1, .int (i32 l1)), (2, .int (i32 l2)), (3, .int (i32 l3))] [] [] := by
  intro l1 l2 l3 r_l1 r_l2 r_l3 h
  rw [wp_X7_isHandy_73] at h
  obtain ⟨c73, h⟩ := h
  refine q_iinc (lv' := [(3, .int (i32 (l3 + 1))), (1, .int (i32 l1)), (2, .int (i32 l2))]) g 3 2 1 (by decide) rfl rfl dX7_isHandy_73 ?_
  refine q_goto g (-70) 6 (by decide) dX7_isHandy_76 ?_
  refine q_lv (lv' := [(1, .int (i32 l1)), (2, .int (i32 l2)), (3, .int (i32 (l3 + 1)))]) [1, 2, 0] rfl ?_
  exact hK_6 l1 l2 (l3 + 1) r_l1 r_l2 c73 h
def wp_X7_isHandy_68 (Q : Int → Prop) (K_6 : Int → Int → Int → Prop) (l1 : Int) (l2 : Int) (l3 : Int) (l4 : Int) : Prop := (r32 (l2 * l4) ∧ ∀ x72 : Int, x72 = (l2 * l4) → wp_X7_isHandy_73 Q K_6 l1 x72 l3)
set_option maxHeartbeats 4000000 in
set_option maxRecDepth 100000 in
theorem s_X7_isHandy_68 {X : Cx} (g : Gd X cX7_isHandy RX7 (some .boolean) 6) (hR : X.R = rmL 1 0 0) (Q : Int → Prop) (hF : FQ X 0 0 (po_X7_isHandy X.cI X.cJ Q)) (K_6 : Int → Int → Int → Prop) (hK_6 : ∀ (l1 : Int) (l2 : Int) (l3 : Int), r32 l1 → r32 l2 → r32 l3 → K_6 l1 l2 l3 → Wat X 0 0 6 [(1, .int (i32 l1)), (2, .int (i32 l2)), (3, .int (i32 l3))] [] []) : ∀ (l1 : Int) (l2 : Int) (l3 : Int) (l4 : Int), r32 l1 → r32 l2 → r32 l3 → r32 l4 → wp_X7_isHandy_68 Q K_6 l1 l2 l3 l4 → Wat X 0 0 68 [(1, .int (i32 l1)), (2, .int (i32 l2)), (3, .int (i32 l3)), (4, .int (i32 l4))] [] [] := by
  intro l1 l2 l3 l4 r_l1 r_l2 r_l3 r_l4 h
  rw [wp_X7_isHandy_68] at h
  refine q_iload_n g 2 1 rfl dX7_isHandy_68 ?_
  refine q_iload g 4 3 rfl dX7_isHandy_69 ?_
  obtain ⟨c71, h⟩ := h
  refine q_imul g dX7_isHandy_71 ?_
  refine q_topi c71 (fun x72 ex72 rx72 => ?_)
  replace h := h x72 ex72
  refine q_istore_n (lv' := [(2, .int (i32 x72)), (1, .int (i32 l1)), (3, .int (i32 l3)), (4, .int (i32 l4))]) g 2 2 rfl (by decide) rfl dX7_isHandy_72 ?_
  refine q_lv (lv' := [(1, .int (i32 l1)), (2, .int (i32 x72)), (3, .int (i32 l3))]) [1, 0, 2] rfl ?_
  exact s_X7_isHandy_73 g hR Q hF K_6 hK_6 l1 x72 l3 r_l1 rx72 r_l3 h
def wp_X7_isHandy_37 (Q : Int → Prop) (K_6 : Int → Int → Int → Prop) : Nat → Int → Int → Int → Int → Int → Prop
  | 0, _, _, _, _, _ => False
  | n + 1, l1, l2, l3, l4, l5 => ((31 ≤ l5 → wp_X7_isHandy_68 Q K_6 l1 l2 l3 l4) ∧
  (¬ (31 ≤ l5) → (0 < l3 ∧ ((¬ (l1.tmod l3) = 0 → wp_X7_isHandy_68 Q K_6 l1 l2 l3 l4) ∧
  ((l1.tmod l3) = 0 → (0 < l3 ∧ ∀ x53 : Int, x53 = (l1.tdiv l3) → r32 (l4 * l3) ∧ r32 ((l4 * l3) + 1) ∧ ∀ x60 : Int, x60 = ((l4 * l3) + 1) → r32 (l5 + 1) ∧ wp_X7_isHandy_37 Q K_6 n x53 l2 l3 x60 (l5 + 1)))))))
set_option maxHeartbeats 4000000 in
set_option maxRecDepth 100000 in
theorem s_X7_isHandy_37 {X : Cx} (g : Gd X cX7_isHandy RX7 (some .boolean) 6) (hR : X.R = rmL 1 0 0) (Q : Int → Prop) (hF : FQ X 0 0 (po_X7_isHandy X.cI X.cJ Q)) (K_6 : Int → Int → Int → Prop) (hK_6 : ∀ (l1 : Int) (l2 : Int) (l3 : Int), r32 l1 → r32 l2 → r32 l3 → K_6 l1 l2 l3 → Wat X 0 0 6 [(1, .int (i32 l1)), (2, .int (i32 l2)), (3, .int (i32 l3))] [] []) : ∀ (n : Nat) (l1 : Int) (l2 : Int) (l3 : Int) (l4 : Int) (l5 : Int), r32 l1 → r32 l2 → r32 l3 → r32 l4 → r32 l5 → wp_X7_isHandy_37 Q K_6 n l1 l2 l3 l4 l5 → Wat X 0 0 37 [(1, .int (i32 l1)), (2, .int (i32 l2)), (3, .int (i32 l3)), (4, .int (i32 l4)), (5, .int (i32 l5))] [] [] := by
  intro n
  induction n with
  | zero => intro l1 l2 l3 l4 l5 r_l1 r_l2 r_l3 r_l4 r_l5 h; exact False.elim h
  | succ n ih =>
    intro l1 l2 l3 l4 l5 r_l1 r_l2 r_l3 r_l4 r_l5 h
    rw [wp_X7_isHandy_37] at h
    refine q_iload g 5 4 rfl dX7_isHandy_37 ?_
    refine q_bipush g (31) (by decide) (by decide) dX7_isHandy_39 ?_
    refine q_icmp_ge g (27) 68 r_l5 (r32_lit _ (by decide)) (by decide) dX7_isHandy_41 (fun b41 => ?_) (fun b41 => ?_)
    · replace h := h.1 b41
      refine q_lv (lv' := [(1, .int (i32 l1)), (2, .int (i32 l2)), (3, .int (i32 l3)), (4, .int (i32 l4))]) [0, 1, 2, 3] rfl ?_
      exact s_X7_isHandy_68 g hR Q hF K_6 hK_6 l1 l2 l3 l4 r_l1 r_l2 r_l3 r_l4 h
    replace h := h.2 b41
    refine q_iload_n g 1 0 rfl dX7_isHandy_44 ?_
    refine q_iload_n g 3 2 rfl dX7_isHandy_45 ?_
    obtain ⟨c46, h⟩ := h
    refine q_irem g r_l1 r_l3 (ne_of_pos c46) dX7_isHandy_46 ?_
    refine q_if_ne g (21) 68 (r32_tmod r_l1 r_l3 (ne_of_pos c46)) (by decide) dX7_isHandy_47 (fun b47 => ?_) (fun b47 => ?_)
    · replace h := h.1 b47
      refine q_lv (lv' := [(1, .int (i32 l1)), (2, .int (i32 l2)), (3, .int (i32 l3)), (4, .int (i32 l4))]) [0, 1, 2, 3] rfl ?_
      exact s_X7_isHandy_68 g hR Q hF K_6 hK_6 l1 l2 l3 l4 r_l1 r_l2 r_l3 r_l4 h
    replace h := h.2 b47
    refine q_iload_n g 1 0 rfl dX7_isHandy_50 ?_
    refine q_iload_n g 3 2 rfl dX7_isHandy_51 ?_
    obtain ⟨c52, h⟩ := h
    refine q_idiv g r_l1 r_l3 (ne_of_pos c52) dX7_isHandy_52 ?_
    refine q_topi (r32_tdiv r_l1 c52) (fun x53 ex53 rx53 => ?_)
    replace h := h x53 ex53
    refine q_istore_n (lv' := [(1, .int (i32 x53)), (2, .int (i32 l2)), (3, .int (i32 l3)), (4, .int (i32 l4)), (5, .int (i32 l5))]) g 1 1 rfl (by decide) rfl dX7_isHandy_53 ?_
    refine q_iload g 4 3 rfl dX7_isHandy_54 ?_
    refine q_iload_n g 3 2 rfl dX7_isHandy_56 ?_
    obtain ⟨c57, h⟩ := h
    refine q_imul g dX7_isHandy_57 ?_
    refine q_iconst g (1) dX7_isHandy_58 ?_
    obtain ⟨c59, h⟩ := h
    refine q_iadd g dX7_isHandy_59 ?_
    refine q_topi c59 (fun x60 ex60 rx60 => ?_)
    replace h := h x60 ex60
    refine q_istore (lv' := [(4, .int (i32 x60)), (1, .int (i32 x53)), (2, .int (i32 l2)), (3, .int (i32 l3)), (5, .int (i32 l5))]) g 4   (by decide) rfl dX7_isHandy_60 ?_
    obtain ⟨c62, h⟩ := h
    refine q_iinc (lv' := [(5, .int (i32 (l5 + 1))), (4, .int (i32 x60)), (1, .int (i32 x53)), (2, .int (i32 l2)), (3, .int (i32 l3))]) g 5 4 1 (by decide) rfl rfl dX7_isHandy_62 ?_
    refine q_goto g (-28) 37 (by decide) dX7_isHandy_65 ?_
    refine q_lv (lv' := [(1, .int (i32 x53)), (2, .int (i32 l2)), (3, .int (i32 l3)), (4, .int (i32 x60)), (5, .int (i32 (l5 + 1)))]) [2, 3, 4, 1, 0] rfl ?_
    exact ih x53 l2 l3 x60 (l5 + 1) rx53 r_l2 r_l3 rx60 c62 h
def wp_X7_isHandy_91 (Q : Int → Prop) (k0 : Int) : Prop := ((k0 = 0 ∨ k0 = 1) ∧ Q k0)
set_option maxHeartbeats 4000000 in
set_option maxRecDepth 100000 in
theorem s_X7_isHandy_91 {X : Cx} (g : Gd X cX7_isHandy RX7 (some .boolean) 6) (hR : X.R = rmL 1 0 0) (Q : Int → Prop) (hF : FQ X 0 0 (po_X7_isHandy X.cI X.cJ Q)) : ∀ (k0 : Int), r32 k0 → wp_X7_isHandy_91 Q k0 → Wat X 0 0 91 [] [.int (i32 k0)] [] := by
  intro k0 r_k0 h
  rw [wp_X7_isHandy_91] at h
  obtain ⟨z91, h⟩ := h
  exact q_zret g hF z91 ⟨k0, rfl, rfl, r_k0, h⟩ dX7_isHandy_91
def wp_X7_isHandy_6 (Q : Int → Prop) : Nat → Int → Int → Int → Prop
  | 0, _, _, _ => False
  | n + 1, l1, l2, l3 => (0 < l3 ∧ (((l1.tdiv l3) < l3 → (r32 (l2 + 1) ∧ (((l2 + 1) < l1 → wp_X7_isHandy_91 Q 0) ∧
  (¬ ((l2 + 1) < l1) → wp_X7_isHandy_91 Q 1)))) ∧
  (¬ ((l1.tdiv l3) < l3) → (0 < l3 ∧ (((l1.tmod l3) = 0 → (r32 (l2 + 1) ∧ ((l3 ≤ (l2 + 1) → (∃ n0 : Nat, wp_X7_isHandy_37 Q (wp_X7_isHandy_6 Q n) n0 l1 l2 l3 1 0)) ∧
  (¬ (l3 ≤ (l2 + 1)) → Q 0)))) ∧
  (¬ ((l1.tmod l3) = 0) → wp_X7_isHandy_73 Q (wp_X7_isHandy_6 Q n) l1 l2 l3))))))
set_option maxHeartbeats 4000000 in
set_option maxRecDepth 100000 in
theorem s_X7_isHandy_6 {X : Cx} (g : Gd X cX7_isHandy RX7 (some .boolean) 6) (hR : X.R = rmL 1 0 0) (Q : Int → Prop) (hF : FQ X 0 0 (po_X7_isHandy X.cI X.cJ Q)) : ∀ (n : Nat) (l1 : Int) (l2 : Int) (l3 : Int), r32 l1 → r32 l2 → r32 l3 → wp_X7_isHandy_6 Q n l1 l2 l3 → Wat X 0 0 6 [(1, .int (i32 l1)), (2, .int (i32 l2)), (3, .int (i32 l3))] [] [] := by
  intro n
  induction n with
  | zero => intro l1 l2 l3 r_l1 r_l2 r_l3 h; exact False.elim h
  | succ n ih =>
    intro l1 l2 l3 r_l1 r_l2 r_l3 h
    rw [wp_X7_isHandy_6] at h
    refine q_iload_n g 3 2 rfl dX7_isHandy_6 ?_
    refine q_iload_n g 1 0 rfl dX7_isHandy_7 ?_
    refine q_iload_n g 3 2 rfl dX7_isHandy_8 ?_
    obtain ⟨c9, h⟩ := h
    refine q_idiv g r_l1 r_l3 (ne_of_pos c9) dX7_isHandy_9 ?_
    refine q_icmp_gt g (69) 79 r_l3 (r32_tdiv r_l1 c9) (by decide) dX7_isHandy_10 (fun b10 => ?_) (fun b10 => ?_)
    · replace h := h.1 b10
      refine q_iload_n g 1 0 rfl dX7_isHandy_79 ?_
      refine q_iload_n g 2 1 rfl dX7_isHandy_80 ?_
      refine q_iconst g (1) dX7_isHandy_81 ?_
      obtain ⟨c82, h⟩ := h
      refine q_iadd g dX7_isHandy_82 ?_
      refine q_icmp_gt g (7) 90 r_l1 c82 (by decide) dX7_isHandy_83 (fun b83 => ?_) (fun b83 => ?_)
      · replace h := h.1 b83
        refine q_iconst g (0) dX7_isHandy_90 ?_
        refine q_lv (lv' := []) [] rfl ?_
        exact s_X7_isHandy_91 g hR Q hF 0 (r32_lit _ (by decide)) h
      replace h := h.2 b83
      refine q_iconst g (1) dX7_isHandy_86 ?_
      refine q_goto g (4) 91 (by decide) dX7_isHandy_87 ?_
      refine q_lv (lv' := []) [] rfl ?_
      exact s_X7_isHandy_91 g hR Q hF 1 (r32_lit _ (by decide)) h
    replace h := h.2 b10
    refine q_iload_n g 1 0 rfl dX7_isHandy_13 ?_
    refine q_iload_n g 3 2 rfl dX7_isHandy_14 ?_
    obtain ⟨c15, h⟩ := h
    refine q_irem g r_l1 r_l3 (ne_of_pos c15) dX7_isHandy_15 ?_
    refine q_if_eq g (6) 22 (r32_tmod r_l1 r_l3 (ne_of_pos c15)) (by decide) dX7_isHandy_16 (fun b16 => ?_) (fun b16 => ?_)
    · replace h := h.1 b16
      refine q_iload_n g 3 2 rfl dX7_isHandy_22 ?_
      refine q_iload_n g 2 1 rfl dX7_isHandy_23 ?_
      refine q_iconst g (1) dX7_isHandy_24 ?_
      obtain ⟨c25, h⟩ := h
      refine q_iadd g dX7_isHandy_25 ?_
      refine q_icmp_le g (5) 31 r_l3 c25 (by decide) dX7_isHandy_26 (fun b26 => ?_) (fun b26 => ?_)
      · replace h := h.1 b26
        refine q_iconst g (1) dX7_isHandy_31 ?_
        refine q_istore (lv' := [(4, .int (i32 1)), (1, .int (i32 l1)), (2, .int (i32 l2)), (3, .int (i32 l3))]) g 4   (by decide) rfl dX7_isHandy_32 ?_
        refine q_iconst g (0) dX7_isHandy_34 ?_
        refine q_istore (lv' := [(5, .int (i32 0)), (4, .int (i32 1)), (1, .int (i32 l1)), (2, .int (i32 l2)), (3, .int (i32 l3))]) g 5   (by decide) rfl dX7_isHandy_35 ?_
        refine q_lv (lv' := [(1, .int (i32 l1)), (2, .int (i32 l2)), (3, .int (i32 l3)), (4, .int (i32 1)), (5, .int (i32 0))]) [2, 3, 4, 1, 0] rfl ?_
        obtain ⟨n0, h⟩ := h
        exact s_X7_isHandy_37 g hR Q hF (wp_X7_isHandy_6 Q n) (fun v0 v1 v2 w0 w1 w2 hh => ih v0 v1 v2 w0 w1 w2 hh) n0 l1 l2 l3 1 0 r_l1 r_l2 r_l3 (r32_lit _ (by decide)) (r32_lit _ (by decide)) h
      replace h := h.2 b26
      refine q_iconst g (0) dX7_isHandy_29 ?_
      exact q_zret g hF (by decide) ⟨0, rfl, rfl, (r32_lit _ (by decide)), h⟩ dX7_isHandy_30
    replace h := h.2 b16
    refine q_goto g (54) 73 (by decide) dX7_isHandy_19 ?_
    exact s_X7_isHandy_73 g hR Q hF (wp_X7_isHandy_6 Q n) (fun v0 v1 v2 w0 w1 w2 hh => ih v0 v1 v2 w0 w1 w2 hh) l1 l2 l3 r_l1 r_l2 r_l3 h
def wp_X7_isHandy (Q : Int → Prop) (l0 : Int) : Prop := (∃ n0 : Nat, wp_X7_isHandy_6 Q n0 l0 1 2)
set_option maxHeartbeats 4000000 in
set_option maxRecDepth 100000 in
theorem c_X7_isHandy (l : Launch) (D : va_G) (cI cJ : ClassId) (zt : Nat) (l0 : Int) (Q : Int → Prop) (r_l0 : r32 l0) (h : wp_X7_isHandy Q l0) : Ct l D cI cJ zt yX7_isHandy cX7_isHandy 6 (some .boolean) 1 0 0 [.int (i32 l0)] [] (po_X7_isHandy cI cJ Q) := by
  refine ct_of (by decide +kernel) (Nat.le_of_ble_eq_true rfl) (fun X hl hDD hcI hcJ hzt hR hF hnm g => ?_)
  subst hl; subst hDD; subst hcI; subst hcJ; subst hzt
  show Wat X 0 0 0 [(0, .int (i32 l0))] [] []
  replace g : Gd X cX7_isHandy RX7 (some .boolean) 6 := g
  rw [wp_X7_isHandy] at h
  refine q_iload_n g 0 0 rfl dX7_isHandy_0 ?_
  refine q_istore_n (lv' := [(1, .int (i32 l0)), (0, .int (i32 l0))]) g 1 1 rfl (by decide) rfl dX7_isHandy_1 ?_
  refine q_iconst g (1) dX7_isHandy_2 ?_
  refine q_istore_n (lv' := [(2, .int (i32 1)), (1, .int (i32 l0)), (0, .int (i32 l0))]) g 2 2 rfl (by decide) rfl dX7_isHandy_3 ?_
  refine q_iconst g (2) dX7_isHandy_4 ?_
  refine q_istore_n (lv' := [(3, .int (i32 2)), (2, .int (i32 1)), (1, .int (i32 l0)), (0, .int (i32 l0))]) g 3 3 rfl (by decide) rfl dX7_isHandy_5 ?_
  refine q_lv (lv' := [(1, .int (i32 l0)), (2, .int (i32 1)), (3, .int (i32 2))]) [2, 1, 0] rfl ?_
  obtain ⟨n0, h⟩ := h
  exact s_X7_isHandy_6 g hR Q hF n0 l0 1 2 r_l0 (r32_lit _ (by decide)) (r32_lit _ (by decide)) h
theorem dX7_isHalf_0 : decode cX7_isHalf 0 = .ok (.iload_n 0, 1) := by decide +kernel
theorem dX7_isHalf_1 : decode cX7_isHalf 1 = .ok (.ifCond .eq 8, 3) := by decide +kernel
theorem dX7_isHalf_4 : decode cX7_isHalf 4 = .ok (.iload_n 0, 1) := by decide +kernel
theorem dX7_isHalf_5 : decode cX7_isHalf 5 = .ok (.iconst 1, 1) := by decide +kernel
theorem dX7_isHalf_6 : decode cX7_isHalf 6 = .ok (.if_icmp .ne 7, 3) := by decide +kernel
theorem dX7_isHalf_9 : decode cX7_isHalf 9 = .ok (.iconst 1, 1) := by decide +kernel
theorem dX7_isHalf_10 : decode cX7_isHalf 10 = .ok (.goto 4, 3) := by decide +kernel
theorem dX7_isHalf_13 : decode cX7_isHalf 13 = .ok (.iconst 0, 1) := by decide +kernel
theorem dX7_isHalf_14 : decode cX7_isHalf 14 = .ok (.ireturn, 1) := by decide +kernel
abbrev po_X7_isHalf (cI cJ : ClassId) (Q : Int → Prop) : Option Value → va_W → Prop := fun rv w1 => ∃ (r0 : Int), rv = some (.int (i32 r0)) ∧ w1 = [] ∧ r32 r0 ∧ Q r0
def wp_X7_isHalf_14 (Q : Int → Prop) (k0 : Int) : Prop := ((k0 = 0 ∨ k0 = 1) ∧ Q k0)
set_option maxHeartbeats 4000000 in
set_option maxRecDepth 100000 in
theorem s_X7_isHalf_14 {X : Cx} (g : Gd X cX7_isHalf RX7 (some .boolean) 1) (hR : X.R = rmL 1 0 0) (Q : Int → Prop) (hF : FQ X 0 0 (po_X7_isHalf X.cI X.cJ Q)) : ∀ (k0 : Int), r32 k0 → wp_X7_isHalf_14 Q k0 → Wat X 0 0 14 [] [.int (i32 k0)] [] := by
  intro k0 r_k0 h
  rw [wp_X7_isHalf_14] at h
  obtain ⟨z14, h⟩ := h
  exact q_zret g hF z14 ⟨k0, rfl, rfl, r_k0, h⟩ dX7_isHalf_14
def wp_X7_isHalf_9 (Q : Int → Prop) : Prop := wp_X7_isHalf_14 Q 1
set_option maxHeartbeats 4000000 in
set_option maxRecDepth 100000 in
theorem s_X7_isHalf_9 {X : Cx} (g : Gd X cX7_isHalf RX7 (some .boolean) 1) (hR : X.R = rmL 1 0 0) (Q : Int → Prop) (hF : FQ X 0 0 (po_X7_isHalf X.cI X.cJ Q)) : wp_X7_isHalf_9 Q → Wat X 0 0 9 [] [] [] := by
  intro h
  rw [wp_X7_isHalf_9] at h
  refine q_iconst g (1) dX7_isHalf_9 ?_
  refine q_goto g (4) 14 (by decide) dX7_isHalf_10 ?_
  exact s_X7_isHalf_14 g hR Q hF 1 (r32_lit _ (by decide)) h
def wp_X7_isHalf (Q : Int → Prop) (l0 : Int) : Prop := ((l0 = 0 → wp_X7_isHalf_9 Q) ∧
  (¬ (l0 = 0) → ((¬ l0 = 1 → wp_X7_isHalf_14 Q 0) ∧
  (l0 = 1 → wp_X7_isHalf_9 Q))))
set_option maxHeartbeats 4000000 in
set_option maxRecDepth 100000 in
theorem c_X7_isHalf (l : Launch) (D : va_G) (cI cJ : ClassId) (zt : Nat) (l0 : Int) (Q : Int → Prop) (r_l0 : r32 l0) (h : wp_X7_isHalf Q l0) : Ct l D cI cJ zt yX7_isHalf cX7_isHalf 1 (some .boolean) 1 0 0 [.int (i32 l0)] [] (po_X7_isHalf cI cJ Q) := by
  refine ct_of (by decide +kernel) (Nat.le_of_ble_eq_true rfl) (fun X hl hDD hcI hcJ hzt hR hF hnm g => ?_)
  subst hl; subst hDD; subst hcI; subst hcJ; subst hzt
  show Wat X 0 0 0 [(0, .int (i32 l0))] [] []
  replace g : Gd X cX7_isHalf RX7 (some .boolean) 1 := g
  rw [wp_X7_isHalf] at h
  refine q_iload_n g 0 0 rfl dX7_isHalf_0 ?_
  refine q_if_eq g (8) 9 r_l0 (by decide) dX7_isHalf_1 (fun b1 => ?_) (fun b1 => ?_)
  · replace h := h.1 b1
    refine q_lv (lv' := []) [] rfl ?_
    exact s_X7_isHalf_9 g hR Q hF h
  replace h := h.2 b1
  refine q_iload_n g 0 0 rfl dX7_isHalf_4 ?_
  refine q_iconst g (1) dX7_isHalf_5 ?_
  refine q_icmp_ne g (7) 13 r_l0 (r32_lit _ (by decide)) (by decide) dX7_isHalf_6 (fun b6 => ?_) (fun b6 => ?_)
  · replace h := h.1 b6
    refine q_iconst g (0) dX7_isHalf_13 ?_
    refine q_lv (lv' := []) [] rfl ?_
    exact s_X7_isHalf_14 g hR Q hF 0 (r32_lit _ (by decide)) h
  replace h := h.2 b6
  refine q_lv (lv' := []) [] rfl ?_
  exact s_X7_isHalf_9 g hR Q hF h
theorem dX7_isRoad_0 : decode cX7_isRoad 0 = .ok (.iload_n 0, 1) := by decide +kernel
theorem dX7_isRoad_1 : decode cX7_isRoad 1 = .ok (.ifCond .lt 12, 3) := by decide +kernel
theorem dX7_isRoad_4 : decode cX7_isRoad 4 = .ok (.iload_n 0, 1) := by decide +kernel
theorem dX7_isRoad_5 : decode cX7_isRoad 5 = .ok (.iconst 5, 1) := by decide +kernel
theorem dX7_isRoad_6 : decode cX7_isRoad 6 = .ok (.if_icmp .ge 7, 3) := by decide +kernel
theorem dX7_isRoad_9 : decode cX7_isRoad 9 = .ok (.iconst 1, 1) := by decide +kernel
theorem dX7_isRoad_10 : decode cX7_isRoad 10 = .ok (.goto 4, 3) := by decide +kernel
theorem dX7_isRoad_13 : decode cX7_isRoad 13 = .ok (.iconst 0, 1) := by decide +kernel
theorem dX7_isRoad_14 : decode cX7_isRoad 14 = .ok (.ireturn, 1) := by decide +kernel
abbrev po_X7_isRoad (cI cJ : ClassId) (Q : Int → Prop) : Option Value → va_W → Prop := fun rv w1 => ∃ (r0 : Int), rv = some (.int (i32 r0)) ∧ w1 = [] ∧ r32 r0 ∧ Q r0
def wp_X7_isRoad_14 (Q : Int → Prop) (k0 : Int) : Prop := ((k0 = 0 ∨ k0 = 1) ∧ Q k0)
set_option maxHeartbeats 4000000 in
set_option maxRecDepth 100000 in
theorem s_X7_isRoad_14 {X : Cx} (g : Gd X cX7_isRoad RX7 (some .boolean) 1) (hR : X.R = rmL 1 0 0) (Q : Int → Prop) (hF : FQ X 0 0 (po_X7_isRoad X.cI X.cJ Q)) : ∀ (k0 : Int), r32 k0 → wp_X7_isRoad_14 Q k0 → Wat X 0 0 14 [] [.int (i32 k0)] [] := by
  intro k0 r_k0 h
  rw [wp_X7_isRoad_14] at h
  obtain ⟨z14, h⟩ := h
  exact q_zret g hF z14 ⟨k0, rfl, rfl, r_k0, h⟩ dX7_isRoad_14
def wp_X7_isRoad_13 (Q : Int → Prop) : Prop := wp_X7_isRoad_14 Q 0
set_option maxHeartbeats 4000000 in
set_option maxRecDepth 100000 in
theorem s_X7_isRoad_13 {X : Cx} (g : Gd X cX7_isRoad RX7 (some .boolean) 1) (hR : X.R = rmL 1 0 0) (Q : Int → Prop) (hF : FQ X 0 0 (po_X7_isRoad X.cI X.cJ Q)) : wp_X7_isRoad_13 Q → Wat X 0 0 13 [] [] [] := by
  intro h
  rw [wp_X7_isRoad_13] at h
  refine q_iconst g (0) dX7_isRoad_13 ?_
  exact s_X7_isRoad_14 g hR Q hF 0 (r32_lit _ (by decide)) h
def wp_X7_isRoad (Q : Int → Prop) (l0 : Int) : Prop := ((l0 < 0 → wp_X7_isRoad_13 Q) ∧
  (¬ (l0 < 0) → ((5 ≤ l0 → wp_X7_isRoad_13 Q) ∧
  (¬ (5 ≤ l0) → wp_X7_isRoad_14 Q 1))))
set_option maxHeartbeats 4000000 in
set_option maxRecDepth 100000 in
theorem c_X7_isRoad (l : Launch) (D : va_G) (cI cJ : ClassId) (zt : Nat) (l0 : Int) (Q : Int → Prop) (r_l0 : r32 l0) (h : wp_X7_isRoad Q l0) : Ct l D cI cJ zt yX7_isRoad cX7_isRoad 1 (some .boolean) 1 0 0 [.int (i32 l0)] [] (po_X7_isRoad cI cJ Q) := by
  refine ct_of (by decide +kernel) (Nat.le_of_ble_eq_true rfl) (fun X hl hDD hcI hcJ hzt hR hF hnm g => ?_)
  subst hl; subst hDD; subst hcI; subst hcJ; subst hzt
  show Wat X 0 0 0 [(0, .int (i32 l0))] [] []
  replace g : Gd X cX7_isRoad RX7 (some .boolean) 1 := g
  rw [wp_X7_isRoad] at h
  refine q_iload_n g 0 0 rfl dX7_isRoad_0 ?_
  refine q_if_lt g (12) 13 r_l0 (by decide) dX7_isRoad_1 (fun b1 => ?_) (fun b1 => ?_)
  · replace h := h.1 b1
    refine q_lv (lv' := []) [] rfl ?_
    exact s_X7_isRoad_13 g hR Q hF h
  replace h := h.2 b1
  refine q_iload_n g 0 0 rfl dX7_isRoad_4 ?_
  refine q_iconst g (5) dX7_isRoad_5 ?_
  refine q_icmp_ge g (7) 13 r_l0 (r32_lit _ (by decide)) (by decide) dX7_isRoad_6 (fun b6 => ?_) (fun b6 => ?_)
  · replace h := h.1 b6
    refine q_lv (lv' := []) [] rfl ?_
    exact s_X7_isRoad_13 g hR Q hF h
  replace h := h.2 b6
  refine q_iconst g (1) dX7_isRoad_9 ?_
  refine q_goto g (4) 14 (by decide) dX7_isRoad_10 ?_
  refine q_lv (lv' := []) [] rfl ?_
  exact s_X7_isRoad_14 g hR Q hF 1 (r32_lit _ (by decide)) h
