theorem wC_X1_size : Cond.code yX1_size cX1_size 1 (some .int) ∈ TT := List.mem_filter.mpr ⟨List.mem_append_right _ (List.mem_of_getElem? (i := 445) (by decide +kernel)), rfl⟩
theorem wC_X4_numberAt : Cond.code yX4_numberAt cX4_numberAt 5 (some .int) ∈ TT := List.mem_filter.mpr ⟨List.mem_append_right _ (List.mem_of_getElem? (i := 458) (by decide +kernel)), rfl⟩
theorem wC_X4_total : Cond.code yX4_total cX4_total 4 (some .int) ∈ TT := List.mem_filter.mpr ⟨List.mem_append_right _ (List.mem_of_getElem? (i := 507) (by decide +kernel)), rfl⟩
theorem wC_X6_findWrong : Cond.code yX6_findWrong cX6_findWrong 3 (some .int) ∈ TT := List.mem_filter.mpr ⟨List.mem_append_right _ (List.mem_of_getElem? (i := 474) (by decide +kernel)), rfl⟩
theorem wC_X6_isBetter : Cond.code yX6_isBetter cX6_isBetter 8 (some .boolean) ∈ TT := List.mem_filter.mpr ⟨List.mem_append_right _ (List.mem_of_getElem? (i := 499) (by decide +kernel)), rfl⟩
theorem wC_X6_isWish : Cond.code yX6_isWish cX6_isWish 1 (some .boolean) ∈ TT := List.mem_filter.mpr ⟨List.mem_append_right _ (List.mem_of_getElem? (i := 477) (by decide +kernel)), rfl⟩
theorem wC_X6_worth : Cond.code yX6_worth cX6_worth 3 (some .int) ∈ TT := List.mem_filter.mpr ⟨List.mem_append_right _ (List.mem_of_getElem? (i := 502) (by decide +kernel)), rfl⟩
theorem wF_X6_11 : Cond.fieldLink RX6 11 (TX6 0).1 (TX6 0).2.1 (TX6 0).2.2.1 ∈ TT := List.mem_filter.mpr ⟨List.mem_append_right _ (List.mem_of_getElem? (i := 137) (by decide +kernel)), rfl⟩
theorem wF_X6_15 : Cond.fieldLink RX6 15 (TX6 2).1 (TX6 2).2.1 (TX6 2).2.2.1 ∈ TT := List.mem_filter.mpr ⟨List.mem_append_right _ (List.mem_of_getElem? (i := 139) (by decide +kernel)), rfl⟩
theorem wF_X6_28 : Cond.fieldLink RX6 28 (TX6 1).1 (TX6 1).2.1 (TX6 1).2.2.1 ∈ TT := List.mem_filter.mpr ⟨List.mem_append_right _ (List.mem_of_getElem? (i := 138) (by decide +kernel)), rfl⟩
theorem wI_X1_size : Cond.instanceMethod yX1_size ∈ TT := List.mem_filter.mpr ⟨List.mem_append_right _ (List.mem_of_getElem? (i := 443) (by decide +kernel)), rfl⟩
theorem wI_X6_findWrong : Cond.instanceMethod yX6_findWrong ∈ TT := List.mem_filter.mpr ⟨List.mem_append_right _ (List.mem_of_getElem? (i := 473) (by decide +kernel)), rfl⟩
theorem wI_X6_isBetter : Cond.instanceMethod yX6_isBetter ∈ TT := List.mem_filter.mpr ⟨List.mem_append_right _ (List.mem_of_getElem? (i := 498) (by decide +kernel)), rfl⟩
theorem wL_X6_31 : Cond.constantLong RX6 31 (255) ∈ TT := List.mem_filter.mpr ⟨List.mem_append_right _ (List.mem_of_getElem? (i := 470) (by decide +kernel)), rfl⟩
theorem wL_X6_72 : Cond.constantLong RX6 72 (6148914691236517205) ∈ TT := List.mem_filter.mpr ⟨List.mem_append_right _ (List.mem_of_getElem? (i := 508) (by decide +kernel)), rfl⟩
theorem wL_X6_74 : Cond.constantLong RX6 74 (-6148914691236517206) ∈ TT := List.mem_filter.mpr ⟨List.mem_append_right _ (List.mem_of_getElem? (i := 509) (by decide +kernel)), rfl⟩
theorem wM_X6_19 : Cond.methodLink RX6 19 yJ9_min_7cf53 ∈ TT := List.mem_filter.mpr ⟨List.mem_append_right _ (List.mem_of_getElem? (i := 468) (by decide +kernel)), rfl⟩
theorem wM_X6_25 : Cond.methodLink RX6 25 yJ9_max_7cf53 ∈ TT := List.mem_filter.mpr ⟨List.mem_append_right _ (List.mem_of_getElem? (i := 469) (by decide +kernel)), rfl⟩
theorem wM_X6_33 : Cond.methodLink RX6 33 yX6_findWrong ∈ TT := List.mem_filter.mpr ⟨List.mem_append_right _ (List.mem_of_getElem? (i := 471) (by decide +kernel)), rfl⟩
theorem wM_X6_37 : Cond.methodLink RX6 37 yX1_size ∈ TT := List.mem_filter.mpr ⟨List.mem_append_right _ (List.mem_of_getElem? (i := 494) (by decide +kernel)), rfl⟩
theorem wM_X6_41 : Cond.methodLink RX6 41 yX1_at ∈ TT := List.mem_filter.mpr ⟨List.mem_append_right _ (List.mem_of_getElem? (i := 495) (by decide +kernel)), rfl⟩
theorem wM_X6_45 : Cond.methodLink RX6 45 yX6_isBetter ∈ TT := List.mem_filter.mpr ⟨List.mem_append_right _ (List.mem_of_getElem? (i := 496) (by decide +kernel)), rfl⟩
theorem wM_X6_49 : Cond.methodLink RX6 49 yX6_isWish ∈ TT := List.mem_filter.mpr ⟨List.mem_append_right _ (List.mem_of_getElem? (i := 475) (by decide +kernel)), rfl⟩
theorem wM_X6_53 : Cond.methodLink RX6 53 yX6_worth ∈ TT := List.mem_filter.mpr ⟨List.mem_append_right _ (List.mem_of_getElem? (i := 500) (by decide +kernel)), rfl⟩
theorem wM_X6_57 : Cond.methodLink RX6 57 yJ13_bitCount_95d88 ∈ TT := List.mem_filter.mpr ⟨List.mem_append_right _ (List.mem_of_getElem? (i := 503) (by decide +kernel)), rfl⟩
theorem wM_X6_63 : Cond.methodLink RX6 63 yX4_numberAt ∈ TT := List.mem_filter.mpr ⟨List.mem_append_right _ (List.mem_of_getElem? (i := 504) (by decide +kernel)), rfl⟩
theorem wM_X6_69 : Cond.methodLink RX6 69 yX4_total ∈ TT := List.mem_filter.mpr ⟨List.mem_append_right _ (List.mem_of_getElem? (i := 505) (by decide +kernel)), rfl⟩
theorem wS_X1_size : Cond.selects yX1_size.cls yX1_size yX1_size ∈ TT := List.mem_filter.mpr ⟨List.mem_append_right _ (List.mem_of_getElem? (i := 444) (by decide +kernel)), rfl⟩
theorem wS_X6_findWrong : Cond.selects yX6_findWrong.cls yX6_findWrong yX6_findWrong ∈ TT := List.mem_filter.mpr ⟨List.mem_append_left _ (List.mem_of_getElem? (i := 23) (by decide +kernel)), rfl⟩
theorem wS_X6_isBetter : Cond.selects yX6_isBetter.cls yX6_isBetter yX6_isBetter ∈ TT := List.mem_filter.mpr ⟨List.mem_append_left _ (List.mem_of_getElem? (i := 24) (by decide +kernel)), rfl⟩
theorem wT_X4_numberAt : Cond.static yX4_numberAt ∈ TT := List.mem_filter.mpr ⟨List.mem_append_right _ (List.mem_of_getElem? (i := 457) (by decide +kernel)), rfl⟩
theorem wT_X4_total : Cond.static yX4_total ∈ TT := List.mem_filter.mpr ⟨List.mem_append_right _ (List.mem_of_getElem? (i := 506) (by decide +kernel)), rfl⟩
theorem wT_X6_isWish : Cond.static yX6_isWish ∈ TT := List.mem_filter.mpr ⟨List.mem_append_right _ (List.mem_of_getElem? (i := 476) (by decide +kernel)), rfl⟩
theorem wT_X6_worth : Cond.static yX6_worth ∈ TT := List.mem_filter.mpr ⟨List.mem_append_right _ (List.mem_of_getElem? (i := 501) (by decide +kernel)), rfl⟩
theorem wZ_X6 : Cond.initialized RX6 ∈ TT := List.mem_filter.mpr ⟨List.mem_append_right _ (List.mem_of_getElem? (i := 6) (by decide +kernel)), rfl⟩
theorem dX6_worth_0 : decode cX6_worth 0 = .ok (.iload_n 0, 1) := by decide +kernel
theorem dX6_worth_1 : decode cX6_worth 1 = .ok (.tableswitch 114 101 115 #[105, 75, 93, 114, 114, 114, 114, 81, 114, 114, 114, 114, 114, 114, 99], 75) := by decide +kernel
theorem dX6_worth_76 : decode cX6_worth 76 = .ok (.lload_n 1, 1) := by decide +kernel
theorem dX6_worth_77 : decode cX6_worth 77 = .ok (.invokestatic 57, 3) := by decide +kernel
theorem dX6_worth_80 : decode cX6_worth 80 = .ok (.ineg, 1) := by decide +kernel
theorem dX6_worth_81 : decode cX6_worth 81 = .ok (.ireturn, 1) := by decide +kernel
theorem dX6_worth_82 : decode cX6_worth 82 = .ok (.lload_n 1, 1) := by decide +kernel
theorem dX6_worth_83 : decode cX6_worth 83 = .ok (.lload_n 1, 1) := by decide +kernel
theorem dX6_worth_84 : decode cX6_worth 84 = .ok (.invokestatic 57, 3) := by decide +kernel
theorem dX6_worth_87 : decode cX6_worth 87 = .ok (.iconst 1, 1) := by decide +kernel
theorem dX6_worth_88 : decode cX6_worth 88 = .ok (.isub, 1) := by decide +kernel
theorem dX6_worth_89 : decode cX6_worth 89 = .ok (.invokestatic 63, 3) := by decide +kernel
theorem dX6_worth_92 : decode cX6_worth 92 = .ok (.ineg, 1) := by decide +kernel
theorem dX6_worth_93 : decode cX6_worth 93 = .ok (.ireturn, 1) := by decide +kernel
theorem dX6_worth_94 : decode cX6_worth 94 = .ok (.lload_n 1, 1) := by decide +kernel
theorem dX6_worth_95 : decode cX6_worth 95 = .ok (.iconst 0, 1) := by decide +kernel
theorem dX6_worth_96 : decode cX6_worth 96 = .ok (.invokestatic 63, 3) := by decide +kernel
theorem dX6_worth_99 : decode cX6_worth 99 = .ok (.ireturn, 1) := by decide +kernel
theorem dX6_worth_100 : decode cX6_worth 100 = .ok (.lload_n 1, 1) := by decide +kernel
theorem dX6_worth_101 : decode cX6_worth 101 = .ok (.invokestatic 69, 3) := by decide +kernel
theorem dX6_worth_104 : decode cX6_worth 104 = .ok (.ineg, 1) := by decide +kernel
theorem dX6_worth_105 : decode cX6_worth 105 = .ok (.ireturn, 1) := by decide +kernel
theorem dX6_worth_106 : decode cX6_worth 106 = .ok (.lload_n 1, 1) := by decide +kernel
theorem dX6_worth_107 : decode cX6_worth 107 = .ok (.ldc2_w 72, 3) := by decide +kernel
theorem dX6_worth_110 : decode cX6_worth 110 = .ok (.land, 1) := by decide +kernel
theorem dX6_worth_111 : decode cX6_worth 111 = .ok (.invokestatic 57, 3) := by decide +kernel
theorem dX6_worth_114 : decode cX6_worth 114 = .ok (.ireturn, 1) := by decide +kernel
theorem dX6_worth_115 : decode cX6_worth 115 = .ok (.lload_n 1, 1) := by decide +kernel
theorem dX6_worth_116 : decode cX6_worth 116 = .ok (.ldc2_w 74, 3) := by decide +kernel
theorem dX6_worth_119 : decode cX6_worth 119 = .ok (.land, 1) := by decide +kernel
theorem dX6_worth_120 : decode cX6_worth 120 = .ok (.invokestatic 57, 3) := by decide +kernel
theorem dX6_worth_123 : decode cX6_worth 123 = .ok (.ireturn, 1) := by decide +kernel
abbrev po_X6_worth (cI cJ : ClassId) (Q : Int → Prop) : Option Value → va_W → Prop := fun rv w1 => ∃ (r0 : Int), rv = some (.int (i32 r0)) ∧ w1 = [] ∧ r32 r0 ∧ Q r0
def wp_X6_worth_115 (Q : Int → Prop) (l1 : Int) : Prop := wp_J13_bitCount_95d88 (fun (x120 : Int) => Q x120) (land64 l1 (-6148914691236517206))
set_option maxHeartbeats 4000000 in
set_option maxRecDepth 100000 in
theorem s_X6_worth_115 {X : Cx} (g : Gd X cX6_worth RX6 (some .int) 3) (hR : X.R = rmL 3 0 0) (Q : Int → Prop) (hF : FQ X 0 0 (po_X6_worth X.cI X.cJ Q)) : ∀ (l1 : Int), r64 l1 → wp_X6_worth_115 Q l1 → Wat X 0 0 115 [(1, .long (i64 l1))] [] [] := by
  intro l1 r_l1 h
  rw [wp_X6_worth_115] at h
  refine q_lload_n g 1 0 rfl dX6_worth_115 ?_
  refine q_ldc2 (w := (-6148914691236517206)) g 74 (-6148914691236517206) (by decide +kernel) wL_X6_74 dX6_worth_116 ?_
  refine q_land g dX6_worth_119 ?_
  refine q_callS (lev := 1) (mc := 0) (ms := 0) (As := [.long (i64 (land64 l1 (-6148914691236517206)))]) g 57 (c_J13_bitCount_95d88 X.l X.D X.cI X.cJ X.zt (land64 l1 (-6148914691236517206)) _ (r_land64 _ _) h) (wr := []) [] [] rfl rfl rfl (by decide) (by decide) (by decide) wM_X6_57 wT_J13_bitCount_95d88 wZ_J13 wC_J13_bitCount_95d88 1 rfl (by decide +kernel) (by rw [hR]; exact ⟨by show 1 + 1 ≤ 3; omega, by show 8 + (2 + 11) + 100 * 1 ≤ 100 * 3; omega⟩) (by rw [hR]; exact ⟨Nat.le_refl _, Nat.le_refl _⟩) (Nat.le_of_ble_eq_true rfl) rfl dX6_worth_120 (fun rv w1 hq => ?_)
  obtain ⟨x120, rfl, rfl, rx120, h⟩ := hq
  show Wat X 0 0 123 [(1, .long (i64 l1))] [.int (i32 x120)] []
  exact q_iret g hF ⟨x120, rfl, rfl, rx120, h⟩ dX6_worth_123
def wp_X6_worth (Q : Int → Prop) (l0 : Int) (l1 : Int) : Prop := ((l0 < 101 ∨ 115 < l0 → wp_X6_worth_115 Q l1) ∧
  (l0 = 101 → wp_J13_bitCount_95d88 (fun (x111 : Int) => Q x111) (land64 l1 6148914691236517205)) ∧
  (l0 = 102 → wp_J13_bitCount_95d88 (fun (x77 : Int) => (r32 (-x77) ∧ Q (-x77))) l1) ∧
  (l0 = 103 → wp_X4_numberAt (fun (x96 : Int) => Q x96) l1 0) ∧
  (l0 = 104 → wp_X6_worth_115 Q l1) ∧
  (l0 = 105 → wp_X6_worth_115 Q l1) ∧
  (l0 = 106 → wp_X6_worth_115 Q l1) ∧
  (l0 = 107 → wp_X6_worth_115 Q l1) ∧
  (l0 = 108 → wp_J13_bitCount_95d88 (fun (x84 : Int) => (r32 (x84 - 1) ∧ wp_X4_numberAt (fun (x89 : Int) => (r32 (-x89) ∧ Q (-x89))) l1 (x84 - 1))) l1) ∧
  (l0 = 109 → wp_X6_worth_115 Q l1) ∧
  (l0 = 110 → wp_X6_worth_115 Q l1) ∧
  (l0 = 111 → wp_X6_worth_115 Q l1) ∧
  (l0 = 112 → wp_X6_worth_115 Q l1) ∧
  (l0 = 113 → wp_X6_worth_115 Q l1) ∧
  (l0 = 114 → wp_X6_worth_115 Q l1) ∧
  (l0 = 115 → wp_X4_total (fun (x101 : Int) => (r32 (-x101) ∧ Q (-x101))) l1))
set_option maxHeartbeats 4000000 in
set_option maxRecDepth 100000 in
theorem c_X6_worth (l : Launch) (D : va_G) (cI cJ : ClassId) (zt : Nat) (l0 : Int) (l1 : Int) (Q : Int → Prop) (r_l0 : r32 l0) (r_l1 : r64 l1) (h : wp_X6_worth Q l0 l1) : Ct l D cI cJ zt yX6_worth cX6_worth 3 (some .int) 3 0 0 [.int (i32 l0), .long (i64 l1)] [] (po_X6_worth cI cJ Q) := by
  refine ct_of (by decide +kernel) (Nat.le_of_ble_eq_true rfl) (fun X hl hDD hcI hcJ hzt hR hF hnm g => ?_)
  subst hl; subst hDD; subst hcI; subst hcJ; subst hzt
  show Wat X 0 0 0 [(0, .int (i32 l0)), (1, .long (i64 l1))] [] []
  replace g : Gd X cX6_worth RX6 (some .int) 3 := g
  rw [wp_X6_worth] at h
  refine q_iload_n g 0 0 rfl dX6_worth_0 ?_
  by_cases bo1 : l0 < 101 ∨ 115 < l0
  · replace h := h.1 bo1
    refine q_tabOut g 115 r_l0 bo1 (by decide) dX6_worth_1 ?_
    refine q_lv (lv' := [(1, .long (i64 l1))]) [1] rfl ?_
    exact s_X6_worth_115 g hR Q hF l1 r_l1 h
  replace h := h.2
  have bs1 : l0 = 101 ∨ l0 = 102 ∨ l0 = 103 ∨ l0 = 104 ∨ l0 = 105 ∨ l0 = 106 ∨ l0 = 107 ∨ l0 = 108 ∨ l0 = 109 ∨ l0 = 110 ∨ l0 = 111 ∨ l0 = 112 ∨ l0 = 113 ∨ l0 = 114 ∨ l0 = 115 := by omega
  rcases bs1 with bs1 | bs1
  · replace h := h.1 bs1
    refine q_tabIn g 106 101 r_l0 bs1 (by decide) (by decide) rfl (by decide) dX6_worth_1 ?_
    refine q_lload_n g 1 1 rfl dX6_worth_106 ?_
    refine q_ldc2 (w := 6148914691236517205) g 72 (6148914691236517205) (by decide +kernel) wL_X6_72 dX6_worth_107 ?_
    refine q_land g dX6_worth_110 ?_
    refine q_callS (lev := 1) (mc := 0) (ms := 0) (As := [.long (i64 (land64 l1 6148914691236517205))]) g 57 (c_J13_bitCount_95d88 X.l X.D X.cI X.cJ X.zt (land64 l1 6148914691236517205) _ (r_land64 _ _) h) (wr := []) [] [] rfl rfl rfl (by decide) (by decide) (by decide) wM_X6_57 wT_J13_bitCount_95d88 wZ_J13 wC_J13_bitCount_95d88 1 rfl (by decide +kernel) (by rw [hR]; exact ⟨by show 1 + 1 ≤ 3; omega, by show 8 + (2 + 11) + 100 * 1 ≤ 100 * 3; omega⟩) (by rw [hR]; exact ⟨Nat.le_refl _, Nat.le_refl _⟩) (Nat.le_of_ble_eq_true rfl) rfl dX6_worth_111 (fun rv w1 hq => ?_)
    obtain ⟨x111, rfl, rfl, rx111, h⟩ := hq
    show Wat X 0 0 114 [(0, .int (i32 l0)), (1, .long (i64 l1))] [.int (i32 x111)] []
    exact q_iret g hF ⟨x111, rfl, rfl, rx111, h⟩ dX6_worth_114
  replace h := h.2
  rcases bs1 with bs1 | bs1
  · replace h := h.1 bs1
    refine q_tabIn g 76 102 r_l0 bs1 (by decide) (by decide) rfl (by decide) dX6_worth_1 ?_
    refine q_lload_n g 1 1 rfl dX6_worth_76 ?_
    refine q_callS (lev := 1) (mc := 0) (ms := 0) (As := [.long (i64 l1)]) g 57 (c_J13_bitCount_95d88 X.l X.D X.cI X.cJ X.zt l1 _ r_l1 h) (wr := []) [] [] rfl rfl rfl (by decide) (by decide) (by decide) wM_X6_57 wT_J13_bitCount_95d88 wZ_J13 wC_J13_bitCount_95d88 1 rfl (by decide +kernel) (by rw [hR]; exact ⟨by show 1 + 1 ≤ 3; omega, by show 8 + (2 + 11) + 100 * 1 ≤ 100 * 3; omega⟩) (by rw [hR]; exact ⟨Nat.le_refl _, Nat.le_refl _⟩) (Nat.le_of_ble_eq_true rfl) rfl dX6_worth_77 (fun rv w1 hq => ?_)
    obtain ⟨x77, rfl, rfl, rx77, h⟩ := hq
    show Wat X 0 0 80 [(0, .int (i32 l0)), (1, .long (i64 l1))] [.int (i32 x77)] []
    obtain ⟨c80, h⟩ := h
    refine q_ineg g dX6_worth_80 ?_
    exact q_iret g hF ⟨(-x77), rfl, rfl, c80, h⟩ dX6_worth_81
  replace h := h.2
  rcases bs1 with bs1 | bs1
  · replace h := h.1 bs1
    refine q_tabIn g 94 103 r_l0 bs1 (by decide) (by decide) rfl (by decide) dX6_worth_1 ?_
    refine q_lload_n g 1 1 rfl dX6_worth_94 ?_
    refine q_iconst g (0) dX6_worth_95 ?_
    refine q_callS (lev := 2) (mc := 0) (ms := 0) (As := [.long (i64 l1), .int (i32 0)]) g 63 (c_X4_numberAt X.l X.D X.cI X.cJ X.zt l1 0 _ r_l1 (r32_lit _ (by decide)) h) (wr := []) [] [] rfl rfl rfl (by decide) (by decide) (by decide) wM_X6_63 wT_X4_numberAt wZ_X4 wC_X4_numberAt 2 rfl (by decide +kernel) (by rw [hR]; exact ⟨by show 2 + 1 ≤ 3; omega, by show 8 + (5 + 11) + 100 * 2 ≤ 100 * 3; omega⟩) (by rw [hR]; exact ⟨Nat.le_refl _, Nat.le_refl _⟩) (Nat.le_of_ble_eq_true rfl) rfl dX6_worth_96 (fun rv w1 hq => ?_)
    obtain ⟨x96, rfl, rfl, rx96, h⟩ := hq
    show Wat X 0 0 99 [(0, .int (i32 l0)), (1, .long (i64 l1))] [.int (i32 x96)] []
    exact q_iret g hF ⟨x96, rfl, rfl, rx96, h⟩ dX6_worth_99
  replace h := h.2
  rcases bs1 with bs1 | bs1
  · replace h := h.1 bs1
    refine q_tabIn g 115 104 r_l0 bs1 (by decide) (by decide) rfl (by decide) dX6_worth_1 ?_
    refine q_lv (lv' := [(1, .long (i64 l1))]) [1] rfl ?_
    exact s_X6_worth_115 g hR Q hF l1 r_l1 h
  replace h := h.2
  rcases bs1 with bs1 | bs1
  · replace h := h.1 bs1
    refine q_tabIn g 115 105 r_l0 bs1 (by decide) (by decide) rfl (by decide) dX6_worth_1 ?_
    refine q_lv (lv' := [(1, .long (i64 l1))]) [1] rfl ?_
    exact s_X6_worth_115 g hR Q hF l1 r_l1 h
  replace h := h.2
  rcases bs1 with bs1 | bs1
  · replace h := h.1 bs1
    refine q_tabIn g 115 106 r_l0 bs1 (by decide) (by decide) rfl (by decide) dX6_worth_1 ?_
    refine q_lv (lv' := [(1, .long (i64 l1))]) [1] rfl ?_
    exact s_X6_worth_115 g hR Q hF l1 r_l1 h
  replace h := h.2
  rcases bs1 with bs1 | bs1
  · replace h := h.1 bs1
    refine q_tabIn g 115 107 r_l0 bs1 (by decide) (by decide) rfl (by decide) dX6_worth_1 ?_
    refine q_lv (lv' := [(1, .long (i64 l1))]) [1] rfl ?_
    exact s_X6_worth_115 g hR Q hF l1 r_l1 h
  replace h := h.2
  rcases bs1 with bs1 | bs1
  · replace h := h.1 bs1
    refine q_tabIn g 82 108 r_l0 bs1 (by decide) (by decide) rfl (by decide) dX6_worth_1 ?_
    refine q_lload_n g 1 1 rfl dX6_worth_82 ?_
    refine q_lload_n g 1 1 rfl dX6_worth_83 ?_
    refine q_callS (lev := 1) (mc := 0) (ms := 0) (As := [.long (i64 l1)]) g 57 (c_J13_bitCount_95d88 X.l X.D X.cI X.cJ X.zt l1 _ r_l1 h) (wr := []) [] [] rfl rfl rfl (by decide) (by decide) (by decide) wM_X6_57 wT_J13_bitCount_95d88 wZ_J13 wC_J13_bitCount_95d88 1 rfl (by decide +kernel) (by rw [hR]; exact ⟨by show 1 + 1 ≤ 3; omega, by show 8 + (2 + 11) + 100 * 1 ≤ 100 * 3; omega⟩) (by rw [hR]; exact ⟨Nat.le_refl _, Nat.le_refl _⟩) (Nat.le_of_ble_eq_true rfl) rfl dX6_worth_84 (fun rv w1 hq => ?_)
    obtain ⟨x84, rfl, rfl, rx84, h⟩ := hq
    show Wat X 0 0 87 [(0, .int (i32 l0)), (1, .long (i64 l1))] [.int (i32 x84), .long (i64 l1)] []
    refine q_iconst g (1) dX6_worth_87 ?_
    obtain ⟨c88, h⟩ := h
    refine q_isub g dX6_worth_88 ?_
    refine q_callS (lev := 2) (mc := 0) (ms := 0) (As := [.long (i64 l1), .int (i32 (x84 - 1))]) g 63 (c_X4_numberAt X.l X.D X.cI X.cJ X.zt l1 (x84 - 1) _ r_l1 c88 h) (wr := []) [] [] rfl rfl rfl (by decide) (by decide) (by decide) wM_X6_63 wT_X4_numberAt wZ_X4 wC_X4_numberAt 2 rfl (by decide +kernel) (by rw [hR]; exact ⟨by show 2 + 1 ≤ 3; omega, by show 8 + (5 + 11) + 100 * 2 ≤ 100 * 3; omega⟩) (by rw [hR]; exact ⟨Nat.le_refl _, Nat.le_refl _⟩) (Nat.le_of_ble_eq_true rfl) rfl dX6_worth_89 (fun rv w1 hq => ?_)
    obtain ⟨x89, rfl, rfl, rx89, h⟩ := hq
    show Wat X 0 0 92 [(0, .int (i32 l0)), (1, .long (i64 l1))] [.int (i32 x89)] []
    obtain ⟨c92, h⟩ := h
    refine q_ineg g dX6_worth_92 ?_
    exact q_iret g hF ⟨(-x89), rfl, rfl, c92, h⟩ dX6_worth_93
  replace h := h.2
  rcases bs1 with bs1 | bs1
  · replace h := h.1 bs1
    refine q_tabIn g 115 109 r_l0 bs1 (by decide) (by decide) rfl (by decide) dX6_worth_1 ?_
    refine q_lv (lv' := [(1, .long (i64 l1))]) [1] rfl ?_
    exact s_X6_worth_115 g hR Q hF l1 r_l1 h
  replace h := h.2
  rcases bs1 with bs1 | bs1
  · replace h := h.1 bs1
    refine q_tabIn g 115 110 r_l0 bs1 (by decide) (by decide) rfl (by decide) dX6_worth_1 ?_
    refine q_lv (lv' := [(1, .long (i64 l1))]) [1] rfl ?_
    exact s_X6_worth_115 g hR Q hF l1 r_l1 h
  replace h := h.2
  rcases bs1 with bs1 | bs1
  · replace h := h.1 bs1
    refine q_tabIn g 115 111 r_l0 bs1 (by decide) (by decide) rfl (by decide) dX6_worth_1 ?_
    refine q_lv (lv' := [(1, .long (i64 l1))]) [1] rfl ?_
    exact s_X6_worth_115 g hR Q hF l1 r_l1 h
  replace h := h.2
  rcases bs1 with bs1 | bs1
  · replace h := h.1 bs1
    refine q_tabIn g 115 112 r_l0 bs1 (by decide) (by decide) rfl (by decide) dX6_worth_1 ?_
    refine q_lv (lv' := [(1, .long (i64 l1))]) [1] rfl ?_
    exact s_X6_worth_115 g hR Q hF l1 r_l1 h
  replace h := h.2
  rcases bs1 with bs1 | bs1
  · replace h := h.1 bs1
    refine q_tabIn g 115 113 r_l0 bs1 (by decide) (by decide) rfl (by decide) dX6_worth_1 ?_
    refine q_lv (lv' := [(1, .long (i64 l1))]) [1] rfl ?_
    exact s_X6_worth_115 g hR Q hF l1 r_l1 h
  replace h := h.2
  rcases bs1 with bs1 | bs1
  · replace h := h.1 bs1
    refine q_tabIn g 115 114 r_l0 bs1 (by decide) (by decide) rfl (by decide) dX6_worth_1 ?_
    refine q_lv (lv' := [(1, .long (i64 l1))]) [1] rfl ?_
    exact s_X6_worth_115 g hR Q hF l1 r_l1 h
  replace h := h.2
  replace h := h bs1
  refine q_tabIn g 100 115 r_l0 bs1 (by decide) (by decide) rfl (by decide) dX6_worth_1 ?_
  refine q_lload_n g 1 1 rfl dX6_worth_100 ?_
  refine q_callS (lev := 2) (mc := 0) (ms := 0) (As := [.long (i64 l1)]) g 69 (c_X4_total X.l X.D X.cI X.cJ X.zt l1 _ r_l1 h) (wr := []) [] [] rfl rfl rfl (by decide) (by decide) (by decide) wM_X6_69 wT_X4_total wZ_X4 wC_X4_total 1 rfl (by decide +kernel) (by rw [hR]; exact ⟨by show 2 + 1 ≤ 3; omega, by show 8 + (4 + 11) + 100 * 2 ≤ 100 * 3; omega⟩) (by rw [hR]; exact ⟨Nat.le_refl _, Nat.le_refl _⟩) (Nat.le_of_ble_eq_true rfl) rfl dX6_worth_101 (fun rv w1 hq => ?_)
  obtain ⟨x101, rfl, rfl, rx101, h⟩ := hq
  show Wat X 0 0 104 [(0, .int (i32 l0)), (1, .long (i64 l1))] [.int (i32 x101)] []
  obtain ⟨c104, h⟩ := h
  refine q_ineg g dX6_worth_104 ?_
  exact q_iret g hF ⟨(-x101), rfl, rfl, c104, h⟩ dX6_worth_105
theorem dX6_isBetter_0 : decode cX6_isBetter 0 = .ok (.iconst 0, 1) := by decide +kernel
theorem dX6_isBetter_1 : decode cX6_isBetter 1 = .ok (.istore 5, 2) := by decide +kernel
theorem dX6_isBetter_3 : decode cX6_isBetter 3 = .ok (.iload 5, 2) := by decide +kernel
theorem dX6_isBetter_5 : decode cX6_isBetter 5 = .ok (.aload_n 0, 1) := by decide +kernel
theorem dX6_isBetter_6 : decode cX6_isBetter 6 = .ok (.getfield 28, 3) := by decide +kernel
theorem dX6_isBetter_9 : decode cX6_isBetter 9 = .ok (.if_icmp .ge 55, 3) := by decide +kernel
theorem dX6_isBetter_12 : decode cX6_isBetter 12 = .ok (.aload_n 0, 1) := by decide +kernel
theorem dX6_isBetter_13 : decode cX6_isBetter 13 = .ok (.getfield 11, 3) := by decide +kernel
theorem dX6_isBetter_16 : decode cX6_isBetter 16 = .ok (.iload 5, 2) := by decide +kernel
theorem dX6_isBetter_18 : decode cX6_isBetter 18 = .ok (.iaload, 1) := by decide +kernel
theorem dX6_isBetter_19 : decode cX6_isBetter 19 = .ok (.lload_n 1, 1) := by decide +kernel
theorem dX6_isBetter_20 : decode cX6_isBetter 20 = .ok (.invokestatic 53, 3) := by decide +kernel
theorem dX6_isBetter_23 : decode cX6_isBetter 23 = .ok (.istore 6, 2) := by decide +kernel
theorem dX6_isBetter_25 : decode cX6_isBetter 25 = .ok (.aload_n 0, 1) := by decide +kernel
theorem dX6_isBetter_26 : decode cX6_isBetter 26 = .ok (.getfield 11, 3) := by decide +kernel
theorem dX6_isBetter_29 : decode cX6_isBetter 29 = .ok (.iload 5, 2) := by decide +kernel
theorem dX6_isBetter_31 : decode cX6_isBetter 31 = .ok (.iaload, 1) := by decide +kernel
theorem dX6_isBetter_32 : decode cX6_isBetter 32 = .ok (.lload_n 3, 1) := by decide +kernel
theorem dX6_isBetter_33 : decode cX6_isBetter 33 = .ok (.invokestatic 53, 3) := by decide +kernel
theorem dX6_isBetter_36 : decode cX6_isBetter 36 = .ok (.istore 7, 2) := by decide +kernel
theorem dX6_isBetter_38 : decode cX6_isBetter 38 = .ok (.iload 6, 2) := by decide +kernel
theorem dX6_isBetter_40 : decode cX6_isBetter 40 = .ok (.iload 7, 2) := by decide +kernel
theorem dX6_isBetter_42 : decode cX6_isBetter 42 = .ok (.if_icmp .eq 16, 3) := by decide +kernel
theorem dX6_isBetter_45 : decode cX6_isBetter 45 = .ok (.iload 6, 2) := by decide +kernel
theorem dX6_isBetter_47 : decode cX6_isBetter 47 = .ok (.iload 7, 2) := by decide +kernel
theorem dX6_isBetter_49 : decode cX6_isBetter 49 = .ok (.if_icmp .le 7, 3) := by decide +kernel
theorem dX6_isBetter_52 : decode cX6_isBetter 52 = .ok (.iconst 1, 1) := by decide +kernel
theorem dX6_isBetter_53 : decode cX6_isBetter 53 = .ok (.goto 4, 3) := by decide +kernel
theorem dX6_isBetter_56 : decode cX6_isBetter 56 = .ok (.iconst 0, 1) := by decide +kernel
theorem dX6_isBetter_57 : decode cX6_isBetter 57 = .ok (.ireturn, 1) := by decide +kernel
theorem dX6_isBetter_58 : decode cX6_isBetter 58 = .ok (.iinc 5 1, 3) := by decide +kernel
theorem dX6_isBetter_61 : decode cX6_isBetter 61 = .ok (.goto (-58), 3) := by decide +kernel
theorem dX6_isBetter_64 : decode cX6_isBetter 64 = .ok (.iconst 0, 1) := by decide +kernel
theorem dX6_isBetter_65 : decode cX6_isBetter 65 = .ok (.ireturn, 1) := by decide +kernel
abbrev po_X6_isBetter (cI cJ : ClassId) (hX6 : Nat) (aX6_letters : Nat) (w_size : Int) (w_wrong : Int) (w_letters : Int → Int) (Q : Int → Prop) : Option Value → va_W → Prop := fun rv w1 => ∃ (r0 : Int), rv = some (.int (i32 r0)) ∧ w1 = [(hX6, .inr (5, [.ref aX6_letters, .int (i32 w_size), .int (i32 w_wrong)])), (aX6_letters, aI cI 8 w_letters)] ∧ r32 r0 ∧ Q r0
def wp_X6_isBetter_57 (Q : Int → Prop) (w_letters : Int → Int) (w_size : Int) (k0 : Int) : Prop := ((k0 = 0 ∨ k0 = 1) ∧ Q k0)
set_option maxHeartbeats 4000000 in
set_option maxRecDepth 100000 in
theorem s_X6_isBetter_57 {X : Cx} (g : Gd X cX6_isBetter RX6 (some .boolean) 8) (hR : X.R = rmL 4 0 0) (hX6 : Nat) (aX6_letters : Nat) (w_wrong : Int) (w_letters : Int → Int) (w_size : Int) (r_w_letters : rr32 w_letters) (r_w_size : r32 w_size) (Q : Int → Prop) (hF : FQ X 0 0 (po_X6_isBetter X.cI X.cJ hX6 aX6_letters w_size w_wrong w_letters Q)) : ∀ (k0 : Int), r32 k0 → wp_X6_isBetter_57 Q w_letters w_size k0 → Wat X 0 0 57 [] [.int (i32 k0)] [(hX6, .inr (5, [.ref aX6_letters, .int (i32 w_size), .int (i32 w_wrong)])), (aX6_letters, aI X.cI 8 w_letters)] := by
  intro k0 r_k0 h
  rw [wp_X6_isBetter_57] at h
  obtain ⟨z57, h⟩ := h
  exact q_zret g hF z57 ⟨k0, rfl, rfl, r_k0, h⟩ dX6_isBetter_57
def wp_X6_isBetter_3 (Q : Int → Prop) (w_letters : Int → Int) (w_size : Int) : Nat → Int → Int → Int → Prop
  | 0, _, _, _ => False
  | n + 1, l1, l3, l5 => ((w_size ≤ l5 → Q 0) ∧
  (¬ (w_size ≤ l5) → (0 ≤ l5 ∧ l5 < 8 ∧ wp_X6_worth (fun (x20 : Int) => (0 ≤ l5 ∧ l5 < 8 ∧ wp_X6_worth (fun (x33 : Int) => ((x20 = x33 → (r32 (l5 + 1) ∧ wp_X6_isBetter_3 Q w_letters w_size n l1 l3 (l5 + 1))) ∧
  (¬ (x20 = x33) → ((x20 ≤ x33 → wp_X6_isBetter_57 Q w_letters w_size 0) ∧
  (¬ (x20 ≤ x33) → wp_X6_isBetter_57 Q w_letters w_size 1))))) (w_letters l5) l3)) (w_letters l5) l1)))
set_option maxHeartbeats 4000000 in
set_option maxRecDepth 100000 in
theorem s_X6_isBetter_3 {X : Cx} (g : Gd X cX6_isBetter RX6 (some .boolean) 8) (hR : X.R = rmL 4 0 0) (hX6 : Nat) (aX6_letters : Nat) (w_wrong : Int) (w_letters : Int → Int) (w_size : Int) (r_w_letters : rr32 w_letters) (r_w_size : r32 w_size) (Q : Int → Prop) (hF : FQ X 0 0 (po_X6_isBetter X.cI X.cJ hX6 aX6_letters w_size w_wrong w_letters Q)) : ∀ (n : Nat) (l1 : Int) (l3 : Int) (l5 : Int), r64 l1 → r64 l3 → r32 l5 → wp_X6_isBetter_3 Q w_letters w_size n l1 l3 l5 → Wat X 0 0 3 [(0, .ref hX6), (1, .long (i64 l1)), (3, .long (i64 l3)), (5, .int (i32 l5))] [] [(hX6, .inr (5, [.ref aX6_letters, .int (i32 w_size), .int (i32 w_wrong)])), (aX6_letters, aI X.cI 8 w_letters)] := by
  intro n
  induction n with
  | zero => intro l1 l3 l5 r_l1 r_l3 r_l5 h; exact False.elim h
  | succ n ih =>
    intro l1 l3 l5 r_l1 r_l3 r_l5 h
    rw [wp_X6_isBetter_3] at h
    refine q_iload g 5 3 rfl dX6_isBetter_3 ?_
    refine q_aload_n g 0 0 rfl dX6_isBetter_5 ?_
    refine q_get (C := RX6) (T := TX6) (N := 3) g 28 inX6 0 1 rfl rfl (by decide) wF_X6_28 rfl dX6_isBetter_6 ?_
    refine q_icmp_ge g (55) 64 r_l5 r_w_size (by decide) dX6_isBetter_9 (fun b9 => ?_) (fun b9 => ?_)
    · replace h := h.1 b9
      refine q_iconst g (0) dX6_isBetter_64 ?_
      exact q_zret g hF (by decide) ⟨0, rfl, rfl, (r32_lit _ (by decide)), h⟩ dX6_isBetter_65
    replace h := h.2 b9
    refine q_aload_n g 0 0 rfl dX6_isBetter_12 ?_
    refine q_get (C := RX6) (T := TX6) (N := 3) g 11 inX6 0 0 rfl rfl (by decide) wF_X6_11 rfl dX6_isBetter_13 ?_
    refine q_iload g 5 3 rfl dX6_isBetter_16 ?_
    obtain ⟨c18, h⟩ := h
    obtain ⟨e18, h⟩ := h
    refine q_iald g 1 rfl c18 e18 (by decide) dX6_isBetter_18 ?_
    refine q_lload_n g 1 1 rfl dX6_isBetter_19 ?_
    refine q_callS (lev := 3) (mc := 0) (ms := 0) (As := [.int (i32 (w_letters l5)), .long (i64 l1)]) g 53 (c_X6_worth X.l X.D X.cI X.cJ X.zt (w_letters l5) l1 _ (r_w_letters _) r_l1 h) (wr := [(hX6, .inr (5, [.ref aX6_letters, .int (i32 w_size), .int (i32 w_wrong)])), (aX6_letters, aI X.cI 8 w_letters)]) [] [0, 1] rfl rfl rfl (by decide) (by decide) (by decide) wM_X6_53 wT_X6_worth wZ_X6 wC_X6_worth 2 rfl (by decide +kernel) (by rw [hR]; exact ⟨by show 3 + 1 ≤ 4; omega, by show 8 + (3 + 11) + 100 * 3 ≤ 100 * 4; omega⟩) (by rw [hR]; exact ⟨Nat.le_refl _, Nat.le_refl _⟩) (Nat.le_of_ble_eq_true rfl) rfl dX6_isBetter_20 (fun rv w1 hq => ?_)
    obtain ⟨x20, rfl, rfl, rx20, h⟩ := hq
    show Wat X 0 0 23 [(0, .ref hX6), (1, .long (i64 l1)), (3, .long (i64 l3)), (5, .int (i32 l5))] [.int (i32 x20)] [(hX6, .inr (5, [.ref aX6_letters, .int (i32 w_size), .int (i32 w_wrong)])), (aX6_letters, aI X.cI 8 w_letters)]
    refine q_istore (lv' := [(6, .int (i32 x20)), (0, .ref hX6), (1, .long (i64 l1)), (3, .long (i64 l3)), (5, .int (i32 l5))]) g 6   (by decide) rfl dX6_isBetter_23 ?_
    refine q_aload_n g 0 1 rfl dX6_isBetter_25 ?_
    refine q_get (C := RX6) (T := TX6) (N := 3) g 11 inX6 0 0 rfl rfl (by decide) wF_X6_11 rfl dX6_isBetter_26 ?_
    refine q_iload g 5 4 rfl dX6_isBetter_29 ?_
    obtain ⟨c31, h⟩ := h
    obtain ⟨e31, h⟩ := h
    refine q_iald g 1 rfl c31 e31 (by decide) dX6_isBetter_31 ?_
    refine q_lload_n g 3 3 rfl dX6_isBetter_32 ?_
    refine q_callS (lev := 3) (mc := 0) (ms := 0) (As := [.int (i32 (w_letters l5)), .long (i64 l3)]) g 53 (c_X6_worth X.l X.D X.cI X.cJ X.zt (w_letters l5) l3 _ (r_w_letters _) r_l3 h) (wr := [(hX6, .inr (5, [.ref aX6_letters, .int (i32 w_size), .int (i32 w_wrong)])), (aX6_letters, aI X.cI 8 w_letters)]) [] [0, 1] rfl rfl rfl (by decide) (by decide) (by decide) wM_X6_53 wT_X6_worth wZ_X6 wC_X6_worth 2 rfl (by decide +kernel) (by rw [hR]; exact ⟨by show 3 + 1 ≤ 4; omega, by show 8 + (3 + 11) + 100 * 3 ≤ 100 * 4; omega⟩) (by rw [hR]; exact ⟨Nat.le_refl _, Nat.le_refl _⟩) (Nat.le_of_ble_eq_true rfl) rfl dX6_isBetter_33 (fun rv w1 hq => ?_)
    obtain ⟨x33, rfl, rfl, rx33, h⟩ := hq
    show Wat X 0 0 36 [(6, .int (i32 x20)), (0, .ref hX6), (1, .long (i64 l1)), (3, .long (i64 l3)), (5, .int (i32 l5))] [.int (i32 x33)] [(hX6, .inr (5, [.ref aX6_letters, .int (i32 w_size), .int (i32 w_wrong)])), (aX6_letters, aI X.cI 8 w_letters)]
    refine q_istore (lv' := [(7, .int (i32 x33)), (6, .int (i32 x20)), (0, .ref hX6), (1, .long (i64 l1)), (3, .long (i64 l3)), (5, .int (i32 l5))]) g 7   (by decide) rfl dX6_isBetter_36 ?_
    refine q_iload g 6 1 rfl dX6_isBetter_38 ?_
    refine q_iload g 7 0 rfl dX6_isBetter_40 ?_
    refine q_icmp_eq g (16) 58 rx20 rx33 (by decide) dX6_isBetter_42 (fun b42 => ?_) (fun b42 => ?_)
    · replace h := h.1 b42
      obtain ⟨c58, h⟩ := h
      refine q_iinc (lv' := [(5, .int (i32 (l5 + 1))), (7, .int (i32 x33)), (6, .int (i32 x20)), (0, .ref hX6), (1, .long (i64 l1)), (3, .long (i64 l3))]) g 5 5 1 (by decide) rfl rfl dX6_isBetter_58 ?_
      refine q_goto g (-58) 3 (by decide) dX6_isBetter_61 ?_
      refine q_lv (lv' := [(0, .ref hX6), (1, .long (i64 l1)), (3, .long (i64 l3)), (5, .int (i32 (l5 + 1)))]) [3, 4, 5, 0] rfl ?_
      exact ih l1 l3 (l5 + 1) r_l1 r_l3 c58 h
    replace h := h.2 b42
    refine q_iload g 6 1 rfl dX6_isBetter_45 ?_
    refine q_iload g 7 0 rfl dX6_isBetter_47 ?_
    refine q_icmp_le g (7) 56 rx20 rx33 (by decide) dX6_isBetter_49 (fun b49 => ?_) (fun b49 => ?_)
    · replace h := h.1 b49
      refine q_iconst g (0) dX6_isBetter_56 ?_
      refine q_lv (lv' := []) [] rfl ?_
      exact s_X6_isBetter_57 g hR hX6 aX6_letters w_wrong w_letters w_size r_w_letters r_w_size Q hF 0 (r32_lit _ (by decide)) h
    replace h := h.2 b49
    refine q_iconst g (1) dX6_isBetter_52 ?_
    refine q_goto g (4) 57 (by decide) dX6_isBetter_53 ?_
    refine q_lv (lv' := []) [] rfl ?_
    exact s_X6_isBetter_57 g hR hX6 aX6_letters w_wrong w_letters w_size r_w_letters r_w_size Q hF 1 (r32_lit _ (by decide)) h
def wp_X6_isBetter (Q : Int → Prop) (w_letters : Int → Int) (w_size : Int) (l1 : Int) (l3 : Int) : Prop := (∃ n0 : Nat, wp_X6_isBetter_3 Q w_letters w_size n0 l1 l3 0)
set_option maxHeartbeats 4000000 in
set_option maxRecDepth 100000 in
theorem c_X6_isBetter (l : Launch) (D : va_G) (cI cJ : ClassId) (zt : Nat) (hX6 : Nat) (aX6_letters : Nat) (w_size : Int) (w_wrong : Int) (w_letters : Int → Int) (l1 : Int) (l3 : Int) (Q : Int → Prop) (r_w_letters : rr32 w_letters) (r_w_size : r32 w_size) (r_l1 : r64 l1) (r_l3 : r64 l3) (h : wp_X6_isBetter Q w_letters w_size l1 l3) : Ct l D cI cJ zt yX6_isBetter cX6_isBetter 8 (some .boolean) 4 0 0 [.ref hX6, .long (i64 l1), .long (i64 l3)] [(hX6, .inr (5, [.ref aX6_letters, .int (i32 w_size), .int (i32 w_wrong)])), (aX6_letters, aI cI 8 w_letters)] (po_X6_isBetter cI cJ hX6 aX6_letters w_size w_wrong w_letters Q) := by
  refine ct_of (by decide +kernel) (Nat.le_of_ble_eq_true rfl) (fun X hl hDD hcI hcJ hzt hR hF hnm g => ?_)
  subst hl; subst hDD; subst hcI; subst hcJ; subst hzt
  show Wat X 0 0 0 [(0, .ref hX6), (1, .long (i64 l1)), (3, .long (i64 l3))] [] [(hX6, .inr (5, [.ref aX6_letters, .int (i32 w_size), .int (i32 w_wrong)])), (aX6_letters, aI X.cI 8 w_letters)]
  replace g : Gd X cX6_isBetter RX6 (some .boolean) 8 := g
  rw [wp_X6_isBetter] at h
  refine q_iconst g (0) dX6_isBetter_0 ?_
  refine q_istore (lv' := [(5, .int (i32 0)), (0, .ref hX6), (1, .long (i64 l1)), (3, .long (i64 l3))]) g 5   (by decide) rfl dX6_isBetter_1 ?_
  refine q_lv (lv' := [(0, .ref hX6), (1, .long (i64 l1)), (3, .long (i64 l3)), (5, .int (i32 0))]) [1, 2, 3, 0] rfl ?_
  obtain ⟨n0, h⟩ := h
  exact s_X6_isBetter_3 g hR hX6 aX6_letters w_wrong w_letters w_size r_w_letters r_w_size Q hF n0 l1 l3 0 r_l1 r_l3 (r32_lit _ (by decide)) h
theorem dX6_choose_0 : decode cX6_choose 0 = .ok (.iconst 0, 1) := by decide +kernel
theorem dX6_choose_1 : decode cX6_choose 1 = .ok (.istore_n 2, 1) := by decide +kernel
theorem dX6_choose_2 : decode cX6_choose 2 = .ok (.iconst 1, 1) := by decide +kernel
theorem dX6_choose_3 : decode cX6_choose 3 = .ok (.istore_n 3, 1) := by decide +kernel
theorem dX6_choose_4 : decode cX6_choose 4 = .ok (.iload_n 3, 1) := by decide +kernel
theorem dX6_choose_5 : decode cX6_choose 5 = .ok (.aload_n 1, 1) := by decide +kernel
theorem dX6_choose_6 : decode cX6_choose 6 = .ok (.invokevirtual 37, 3) := by decide +kernel
theorem dX6_choose_9 : decode cX6_choose 9 = .ok (.if_icmp .ge 28, 3) := by decide +kernel
theorem dX6_choose_12 : decode cX6_choose 12 = .ok (.aload_n 0, 1) := by decide +kernel
theorem dX6_choose_13 : decode cX6_choose 13 = .ok (.aload_n 1, 1) := by decide +kernel
theorem dX6_choose_14 : decode cX6_choose 14 = .ok (.iload_n 3, 1) := by decide +kernel
theorem dX6_choose_15 : decode cX6_choose 15 = .ok (.invokevirtual 41, 3) := by decide +kernel
theorem dX6_choose_18 : decode cX6_choose 18 = .ok (.aload_n 1, 1) := by decide +kernel
theorem dX6_choose_19 : decode cX6_choose 19 = .ok (.iload_n 2, 1) := by decide +kernel
theorem dX6_choose_20 : decode cX6_choose 20 = .ok (.invokevirtual 41, 3) := by decide +kernel
theorem dX6_choose_23 : decode cX6_choose 23 = .ok (.invokevirtual 45, 3) := by decide +kernel
theorem dX6_choose_26 : decode cX6_choose 26 = .ok (.ifCond .eq 5, 3) := by decide +kernel
theorem dX6_choose_29 : decode cX6_choose 29 = .ok (.iload_n 3, 1) := by decide +kernel
theorem dX6_choose_30 : decode cX6_choose 30 = .ok (.istore_n 2, 1) := by decide +kernel
theorem dX6_choose_31 : decode cX6_choose 31 = .ok (.iinc 3 1, 3) := by decide +kernel
theorem dX6_choose_34 : decode cX6_choose 34 = .ok (.goto (-30), 3) := by decide +kernel
theorem dX6_choose_37 : decode cX6_choose 37 = .ok (.iload_n 2, 1) := by decide +kernel
theorem dX6_choose_38 : decode cX6_choose 38 = .ok (.ireturn, 1) := by decide +kernel
abbrev po_X6_choose (cI cJ : ClassId) (hX6 : Nat) (aX6_letters : Nat) (w_size : Int) (w_wrong : Int) (hX1 : Nat) (aX1_rows : Nat) (aX1_ones : Nat) (aX1_twos : Nat) (aX1_distances : Nat) (aX1_reached : Nat) (f_swaps : Int) (f_there : Int) (f_size : Int) (f_mostShares : Int) (f_source : Int) (f_looked : Int) (f_ends : Int) (f_rows : Int → Int) (w_letters : Int → Int) (Q : Int → Prop) : Option Value → va_W → Prop := fun rv w1 => ∃ (r0 : Int), rv = some (.int (i32 r0)) ∧ w1 = [(hX6, .inr (5, [.ref aX6_letters, .int (i32 w_size), .int (i32 w_wrong)])), (hX1, .inr (1, [.ref aX1_rows, .ref aX1_ones, .ref aX1_twos, .ref aX1_distances, .ref aX1_reached, .int (i32 f_swaps), .int (i32 f_there), .int (i32 f_size), .int (i32 f_mostShares), .int (i32 f_source), .int (i32 f_looked), .int (i32 f_ends)])), (aX1_rows, aL cJ 2001 f_rows), (aX6_letters, aI cI 8 w_letters)] ∧ r32 r0 ∧ Q r0
def wp_X6_choose_31 (Q : Int → Prop) (f_rows : Int → Int) (f_size : Int) (w_letters : Int → Int) (w_size : Int) (K_4 : Int → Int → Prop) (l2 : Int) (l3 : Int) : Prop := (r32 (l3 + 1) ∧ K_4 l2 (l3 + 1))
set_option maxHeartbeats 4000000 in
set_option maxRecDepth 100000 in
theorem s_X6_choose_31 {X : Cx} (g : Gd X cX6_choose RX6 (some .int) 4) (hR : X.R = rmL 5 0 0) (hX6 : Nat) (aX6_letters : Nat) (w_wrong : Int) (hX1 : Nat) (aX1_rows : Nat) (aX1_ones : Nat) (aX1_twos : Nat) (aX1_distances : Nat) (aX1_reached : Nat) (f_swaps : Int) (f_there : Int) (f_mostShares : Int) (f_source : Int) (f_looked : Int) (f_ends : Int) (f_rows : Int → Int) (f_size : Int) (w_letters : Int → Int) (w_size : Int) (r_f_rows : rr64 f_rows) (r_f_size : r32 f_size) (r_w_letters : rr32 w_letters) (r_w_size : r32 w_size) (Q : Int → Prop) (hF : FQ X 0 0 (po_X6_choose X.cI X.cJ hX6 aX6_letters w_size w_wrong hX1 aX1_rows aX1_ones aX1_twos aX1_distances aX1_reached f_swaps f_there f_size f_mostShares f_source f_looked f_ends f_rows w_letters Q)) (K_4 : Int → Int → Prop) (hK_4 : ∀ (l2 : Int) (l3 : Int), r32 l2 → r32 l3 → K_4 l2 l3 → Wat X 0 0 4 [(0, .ref hX6), (1, .ref hX1), (2, .int (i32 l2)), (3, .int (i32 l3))] [] [(hX6, .inr (5, [.ref aX6_letters, .int (i32 w_size), .int (i32 w_wrong)])), (hX1, .inr (1, [.ref aX1_rows, .ref aX1_ones, .ref aX1_twos, .ref aX1_distances, .ref aX1_reached, .int (i32 f_swaps), .int (i32 f_there), .int (i32 f_size), .int (i32 f_mostShares), .int (i32 f_source), .int (i32 f_looked), .int (i32 f_ends)])), (aX1_rows, aL X.cJ 2001 f_rows), (aX6_letters, aI X.cI 8 w_letters)]) : ∀ (l2 : Int) (l3 : Int), r32 l2 → r32 l3 → wp_X6_choose_31 Q f_rows f_size w_letters w_size K_4 l2 l3 → Wat X 0 0 31 [(0, .ref hX6), (1, .ref hX1), (2, .int (i32 l2)), (3, .int (i32 l3))] [] [(hX6, .inr (5, [.ref aX6_letters, .int (i32 w_size), .int (i32 w_wrong)])), (hX1, .inr (1, [.ref aX1_rows, .ref aX1_ones, .ref aX1_twos, .ref aX1_distances, .ref aX1_reached, .int (i32 f_swaps), .int (i32 f_there), .int (i32 f_size), .int (i32 f_mostShares), .int (i32 f_source), .int (i32 f_looked), .int (i32 f_ends)])), (aX1_rows, aL X.cJ 2001 f_rows), (aX6_letters, aI X.cI 8 w_letters)] := by
  intro l2 l3 r_l2 r_l3 h
  rw [wp_X6_choose_31] at h
  obtain ⟨c31, h⟩ := h
  refine q_iinc (lv' := [(3, .int (i32 (l3 + 1))), (0, .ref hX6), (1, .ref hX1), (2, .int (i32 l2))]) g 3 3 1 (by decide) rfl rfl dX6_choose_31 ?_
  refine q_goto g (-30) 4 (by decide) dX6_choose_34 ?_
  refine q_lv (lv' := [(0, .ref hX6), (1, .ref hX1), (2, .int (i32 l2)), (3, .int (i32 (l3 + 1)))]) [1, 2, 3, 0] rfl ?_
  exact hK_4 l2 (l3 + 1) r_l2 c31 h
def wp_X6_choose_4 (Q : Int → Prop) (f_rows : Int → Int) (f_size : Int) (w_letters : Int → Int) (w_size : Int) : Nat → Int → Int → Prop
  | 0, _, _ => False
  | n + 1, l2, l3 => wp_X1_size (fun (x6 : Int) => ((x6 ≤ l3 → Q l2) ∧
  (¬ (x6 ≤ l3) → wp_X1_at (fun (x15 : Int) => wp_X1_at (fun (x20 : Int) => wp_X6_isBetter (fun (x23 : Int) => ((x23 = 0 → wp_X6_choose_31 Q f_rows f_size w_letters w_size (wp_X6_choose_4 Q f_rows f_size w_letters w_size n) l2 l3) ∧
  (¬ (x23 = 0) → wp_X6_choose_31 Q f_rows f_size w_letters w_size (wp_X6_choose_4 Q f_rows f_size w_letters w_size n) l3 l3))) w_letters w_size x15 x20) f_rows l2) f_rows l3))) f_size
set_option maxHeartbeats 4000000 in
set_option maxRecDepth 100000 in
theorem s_X6_choose_4 {X : Cx} (g : Gd X cX6_choose RX6 (some .int) 4) (hR : X.R = rmL 5 0 0) (hX6 : Nat) (aX6_letters : Nat) (w_wrong : Int) (hX1 : Nat) (aX1_rows : Nat) (aX1_ones : Nat) (aX1_twos : Nat) (aX1_distances : Nat) (aX1_reached : Nat) (f_swaps : Int) (f_there : Int) (f_mostShares : Int) (f_source : Int) (f_looked : Int) (f_ends : Int) (f_rows : Int → Int) (f_size : Int) (w_letters : Int → Int) (w_size : Int) (r_f_rows : rr64 f_rows) (r_f_size : r32 f_size) (r_w_letters : rr32 w_letters) (r_w_size : r32 w_size) (Q : Int → Prop) (hF : FQ X 0 0 (po_X6_choose X.cI X.cJ hX6 aX6_letters w_size w_wrong hX1 aX1_rows aX1_ones aX1_twos aX1_distances aX1_reached f_swaps f_there f_size f_mostShares f_source f_looked f_ends f_rows w_letters Q)) : ∀ (n : Nat) (l2 : Int) (l3 : Int), r32 l2 → r32 l3 → wp_X6_choose_4 Q f_rows f_size w_letters w_size n l2 l3 → Wat X 0 0 4 [(0, .ref hX6), (1, .ref hX1), (2, .int (i32 l2)), (3, .int (i32 l3))] [] [(hX6, .inr (5, [.ref aX6_letters, .int (i32 w_size), .int (i32 w_wrong)])), (hX1, .inr (1, [.ref aX1_rows, .ref aX1_ones, .ref aX1_twos, .ref aX1_distances, .ref aX1_reached, .int (i32 f_swaps), .int (i32 f_there), .int (i32 f_size), .int (i32 f_mostShares), .int (i32 f_source), .int (i32 f_looked), .int (i32 f_ends)])), (aX1_rows, aL X.cJ 2001 f_rows), (aX6_letters, aI X.cI 8 w_letters)] := by
  intro n
  induction n with
  | zero => intro l2 l3 r_l2 r_l3 h; exact False.elim h
  | succ n ih =>
    intro l2 l3 r_l2 r_l3 h
    rw [wp_X6_choose_4] at h
    refine q_iload_n g 3 3 rfl dX6_choose_4 ?_
    refine q_aload_n g 1 1 rfl dX6_choose_5 ?_
    refine q_callV (lev := 1) (mc := 0) (ms := 0) g 37 (c_X1_size X.l X.D X.cI X.cJ X.zt hX1 aX1_rows aX1_ones aX1_twos aX1_distances aX1_reached f_swaps f_there f_size f_mostShares f_source f_looked f_ends _ r_f_size h) (wr := [(hX6, .inr (5, [.ref aX6_letters, .int (i32 w_size), .int (i32 w_wrong)])), (aX1_rows, aL X.cJ 2001 f_rows), (aX6_letters, aI X.cI 8 w_letters)]) [1] [0, 2, 3] rfl rfl rfl (by decide) (by decide) (by decide) (ci := 1) rfl rfl rfl wM_X6_37 wI_X1_size wS_X1_size wZ_X1 wC_X1_size 0 rfl (by decide +kernel) (by rw [hR]; exact ⟨by show 1 + 1 ≤ 5; omega, by show 8 + (1 + 11) + 100 * 1 ≤ 100 * 5; omega⟩) (by rw [hR]; exact ⟨Nat.le_refl _, Nat.le_refl _⟩) (Nat.le_of_ble_eq_true rfl) rfl dX6_choose_6 (fun rv w1 hq => ?_)
    obtain ⟨x6, rfl, rfl, rx6, h⟩ := hq
    refine q_ws (ws' := [(hX6, .inr (5, [.ref aX6_letters, .int (i32 w_size), .int (i32 w_wrong)])), (hX1, .inr (1, [.ref aX1_rows, .ref aX1_ones, .ref aX1_twos, .ref aX1_distances, .ref aX1_reached, .int (i32 f_swaps), .int (i32 f_there), .int (i32 f_size), .int (i32 f_mostShares), .int (i32 f_source), .int (i32 f_looked), .int (i32 f_ends)])), (aX1_rows, aL X.cJ 2001 f_rows), (aX6_letters, aI X.cI 8 w_letters)]) [0, 3, 1, 2] (by decide) rfl rfl ?_
    show Wat X 0 0 9 [(0, .ref hX6), (1, .ref hX1), (2, .int (i32 l2)), (3, .int (i32 l3))] [.int (i32 x6), .int (i32 l3)] [(hX6, .inr (5, [.ref aX6_letters, .int (i32 w_size), .int (i32 w_wrong)])), (hX1, .inr (1, [.ref aX1_rows, .ref aX1_ones, .ref aX1_twos, .ref aX1_distances, .ref aX1_reached, .int (i32 f_swaps), .int (i32 f_there), .int (i32 f_size), .int (i32 f_mostShares), .int (i32 f_source), .int (i32 f_looked), .int (i32 f_ends)])), (aX1_rows, aL X.cJ 2001 f_rows), (aX6_letters, aI X.cI 8 w_letters)]
    refine q_icmp_ge g (28) 37 r_l3 rx6 (by decide) dX6_choose_9 (fun b9 => ?_) (fun b9 => ?_)
    · replace h := h.1 b9
      refine q_iload_n g 2 2 rfl dX6_choose_37 ?_
      exact q_iret g hF ⟨l2, rfl, rfl, r_l2, h⟩ dX6_choose_38
    replace h := h.2 b9
    refine q_aload_n g 0 0 rfl dX6_choose_12 ?_
    refine q_aload_n g 1 1 rfl dX6_choose_13 ?_
    refine q_iload_n g 3 3 rfl dX6_choose_14 ?_
    refine q_callV (lev := 1) (mc := 0) (ms := 0) g 41 (c_X1_at X.l X.D X.cI X.cJ X.zt hX1 aX1_rows aX1_ones aX1_twos aX1_distances aX1_reached f_swaps f_there f_size f_mostShares f_source f_looked f_ends f_rows l3 _ r_f_rows r_l3 h) (wr := [(hX6, .inr (5, [.ref aX6_letters, .int (i32 w_size), .int (i32 w_wrong)])), (aX6_letters, aI X.cI 8 w_letters)]) [1, 2] [0, 3] rfl rfl rfl (by decide) (by decide) (by decide) (ci := 1) rfl rfl rfl wM_X6_41 wI_X1_at wS_X1_at wZ_X1 wC_X1_at 1 rfl (by decide +kernel) (by rw [hR]; exact ⟨by show 1 + 1 ≤ 5; omega, by show 8 + (2 + 11) + 100 * 1 ≤ 100 * 5; omega⟩) (by rw [hR]; exact ⟨Nat.le_refl _, Nat.le_refl _⟩) (Nat.le_of_ble_eq_true rfl) rfl dX6_choose_15 (fun rv w1 hq => ?_)
    obtain ⟨x15, rfl, rfl, rx15, h⟩ := hq
    refine q_ws (ws' := [(hX6, .inr (5, [.ref aX6_letters, .int (i32 w_size), .int (i32 w_wrong)])), (hX1, .inr (1, [.ref aX1_rows, .ref aX1_ones, .ref aX1_twos, .ref aX1_distances, .ref aX1_reached, .int (i32 f_swaps), .int (i32 f_there), .int (i32 f_size), .int (i32 f_mostShares), .int (i32 f_source), .int (i32 f_looked), .int (i32 f_ends)])), (aX1_rows, aL X.cJ 2001 f_rows), (aX6_letters, aI X.cI 8 w_letters)]) [0, 2, 3, 1] (by decide) rfl rfl ?_
    show Wat X 0 0 18 [(0, .ref hX6), (1, .ref hX1), (2, .int (i32 l2)), (3, .int (i32 l3))] [.long (i64 x15), .ref hX6] [(hX6, .inr (5, [.ref aX6_letters, .int (i32 w_size), .int (i32 w_wrong)])), (hX1, .inr (1, [.ref aX1_rows, .ref aX1_ones, .ref aX1_twos, .ref aX1_distances, .ref aX1_reached, .int (i32 f_swaps), .int (i32 f_there), .int (i32 f_size), .int (i32 f_mostShares), .int (i32 f_source), .int (i32 f_looked), .int (i32 f_ends)])), (aX1_rows, aL X.cJ 2001 f_rows), (aX6_letters, aI X.cI 8 w_letters)]
    refine q_aload_n g 1 1 rfl dX6_choose_18 ?_
    refine q_iload_n g 2 2 rfl dX6_choose_19 ?_
    refine q_callV (lev := 1) (mc := 0) (ms := 0) g 41 (c_X1_at X.l X.D X.cI X.cJ X.zt hX1 aX1_rows aX1_ones aX1_twos aX1_distances aX1_reached f_swaps f_there f_size f_mostShares f_source f_looked f_ends f_rows l2 _ r_f_rows r_l2 h) (wr := [(hX6, .inr (5, [.ref aX6_letters, .int (i32 w_size), .int (i32 w_wrong)])), (aX6_letters, aI X.cI 8 w_letters)]) [1, 2] [0, 3] rfl rfl rfl (by decide) (by decide) (by decide) (ci := 1) rfl rfl rfl wM_X6_41 wI_X1_at wS_X1_at wZ_X1 wC_X1_at 1 rfl (by decide +kernel) (by rw [hR]; exact ⟨by show 1 + 1 ≤ 5; omega, by show 8 + (2 + 11) + 100 * 1 ≤ 100 * 5; omega⟩) (by rw [hR]; exact ⟨Nat.le_refl _, Nat.le_refl _⟩) (Nat.le_of_ble_eq_true rfl) rfl dX6_choose_20 (fun rv w1 hq => ?_)
    obtain ⟨x20, rfl, rfl, rx20, h⟩ := hq
    refine q_ws (ws' := [(hX6, .inr (5, [.ref aX6_letters, .int (i32 w_size), .int (i32 w_wrong)])), (hX1, .inr (1, [.ref aX1_rows, .ref aX1_ones, .ref aX1_twos, .ref aX1_distances, .ref aX1_reached, .int (i32 f_swaps), .int (i32 f_there), .int (i32 f_size), .int (i32 f_mostShares), .int (i32 f_source), .int (i32 f_looked), .int (i32 f_ends)])), (aX1_rows, aL X.cJ 2001 f_rows), (aX6_letters, aI X.cI 8 w_letters)]) [0, 2, 3, 1] (by decide) rfl rfl ?_
    show Wat X 0 0 23 [(0, .ref hX6), (1, .ref hX1), (2, .int (i32 l2)), (3, .int (i32 l3))] [.long (i64 x20), .long (i64 x15), .ref hX6] [(hX6, .inr (5, [.ref aX6_letters, .int (i32 w_size), .int (i32 w_wrong)])), (hX1, .inr (1, [.ref aX1_rows, .ref aX1_ones, .ref aX1_twos, .ref aX1_distances, .ref aX1_reached, .int (i32 f_swaps), .int (i32 f_there), .int (i32 f_size), .int (i32 f_mostShares), .int (i32 f_source), .int (i32 f_looked), .int (i32 f_ends)])), (aX1_rows, aL X.cJ 2001 f_rows), (aX6_letters, aI X.cI 8 w_letters)]
    refine q_callV (lev := 4) (mc := 0) (ms := 0) g 45 (c_X6_isBetter X.l X.D X.cI X.cJ X.zt hX6 aX6_letters w_size w_wrong w_letters x15 x20 _ r_w_letters r_w_size rx15 rx20 h) (wr := [(hX1, .inr (1, [.ref aX1_rows, .ref aX1_ones, .ref aX1_twos, .ref aX1_distances, .ref aX1_reached, .int (i32 f_swaps), .int (i32 f_there), .int (i32 f_size), .int (i32 f_mostShares), .int (i32 f_source), .int (i32 f_looked), .int (i32 f_ends)])), (aX1_rows, aL X.cJ 2001 f_rows)]) [0, 3] [1, 2] rfl rfl rfl (by decide) (by decide) (by decide) (ci := 5) rfl rfl rfl wM_X6_45 wI_X6_isBetter wS_X6_isBetter wZ_X6 wC_X6_isBetter 2 rfl (by decide +kernel) (by rw [hR]; exact ⟨by show 4 + 1 ≤ 5; omega, by show 8 + (8 + 11) + 100 * 4 ≤ 100 * 5; omega⟩) (by rw [hR]; exact ⟨Nat.le_refl _, Nat.le_refl _⟩) (Nat.le_of_ble_eq_true rfl) rfl dX6_choose_23 (fun rv w1 hq => ?_)
    obtain ⟨x23, rfl, rfl, rx23, h⟩ := hq
    refine q_ws (ws' := [(hX6, .inr (5, [.ref aX6_letters, .int (i32 w_size), .int (i32 w_wrong)])), (hX1, .inr (1, [.ref aX1_rows, .ref aX1_ones, .ref aX1_twos, .ref aX1_distances, .ref aX1_reached, .int (i32 f_swaps), .int (i32 f_there), .int (i32 f_size), .int (i32 f_mostShares), .int (i32 f_source), .int (i32 f_looked), .int (i32 f_ends)])), (aX1_rows, aL X.cJ 2001 f_rows), (aX6_letters, aI X.cI 8 w_letters)]) [2, 0, 1, 3] (by decide) rfl rfl ?_
    show Wat X 0 0 26 [(0, .ref hX6), (1, .ref hX1), (2, .int (i32 l2)), (3, .int (i32 l3))] [.int (i32 x23)] [(hX6, .inr (5, [.ref aX6_letters, .int (i32 w_size), .int (i32 w_wrong)])), (hX1, .inr (1, [.ref aX1_rows, .ref aX1_ones, .ref aX1_twos, .ref aX1_distances, .ref aX1_reached, .int (i32 f_swaps), .int (i32 f_there), .int (i32 f_size), .int (i32 f_mostShares), .int (i32 f_source), .int (i32 f_looked), .int (i32 f_ends)])), (aX1_rows, aL X.cJ 2001 f_rows), (aX6_letters, aI X.cI 8 w_letters)]
    refine q_if_eq g (5) 31 rx23 (by decide) dX6_choose_26 (fun b26 => ?_) (fun b26 => ?_)
    · replace h := h.1 b26
      exact s_X6_choose_31 g hR hX6 aX6_letters w_wrong hX1 aX1_rows aX1_ones aX1_twos aX1_distances aX1_reached f_swaps f_there f_mostShares f_source f_looked f_ends f_rows f_size w_letters w_size r_f_rows r_f_size r_w_letters r_w_size Q hF (wp_X6_choose_4 Q f_rows f_size w_letters w_size n) (fun v0 v1 w0 w1 hh => ih v0 v1 w0 w1 hh) l2 l3 r_l2 r_l3 h
    replace h := h.2 b26
    refine q_iload_n g 3 3 rfl dX6_choose_29 ?_
    refine q_istore_n (lv' := [(2, .int (i32 l3)), (0, .ref hX6), (1, .ref hX1), (3, .int (i32 l3))]) g 2 2 rfl (by decide) rfl dX6_choose_30 ?_
    refine q_lv (lv' := [(0, .ref hX6), (1, .ref hX1), (2, .int (i32 l3)), (3, .int (i32 l3))]) [1, 2, 0, 3] rfl ?_
    exact s_X6_choose_31 g hR hX6 aX6_letters w_wrong hX1 aX1_rows aX1_ones aX1_twos aX1_distances aX1_reached f_swaps f_there f_mostShares f_source f_looked f_ends f_rows f_size w_letters w_size r_f_rows r_f_size r_w_letters r_w_size Q hF (wp_X6_choose_4 Q f_rows f_size w_letters w_size n) (fun v0 v1 w0 w1 hh => ih v0 v1 w0 w1 hh) l3 l3 r_l3 r_l3 h
def wp_X6_choose (Q : Int → Prop) (f_rows : Int → Int) (f_size : Int) (w_letters : Int → Int) (w_size : Int) : Prop := (∃ n0 : Nat, wp_X6_choose_4 Q f_rows f_size w_letters w_size n0 0 1)
set_option maxHeartbeats 4000000 in
set_option maxRecDepth 100000 in
theorem c_X6_choose (l : Launch) (D : va_G) (cI cJ : ClassId) (zt : Nat) (hX6 : Nat) (aX6_letters : Nat) (w_size : Int) (w_wrong : Int) (hX1 : Nat) (aX1_rows : Nat) (aX1_ones : Nat) (aX1_twos : Nat) (aX1_distances : Nat) (aX1_reached : Nat) (f_swaps : Int) (f_there : Int) (f_size : Int) (f_mostShares : Int) (f_source : Int) (f_looked : Int) (f_ends : Int) (f_rows : Int → Int) (w_letters : Int → Int) (Q : Int → Prop) (r_f_rows : rr64 f_rows) (r_f_size : r32 f_size) (r_w_letters : rr32 w_letters) (r_w_size : r32 w_size) (h : wp_X6_choose Q f_rows f_size w_letters w_size) : Ct l D cI cJ zt yX6_choose cX6_choose 4 (some .int) 5 0 0 [.ref hX6, .ref hX1] [(hX6, .inr (5, [.ref aX6_letters, .int (i32 w_size), .int (i32 w_wrong)])), (hX1, .inr (1, [.ref aX1_rows, .ref aX1_ones, .ref aX1_twos, .ref aX1_distances, .ref aX1_reached, .int (i32 f_swaps), .int (i32 f_there), .int (i32 f_size), .int (i32 f_mostShares), .int (i32 f_source), .int (i32 f_looked), .int (i32 f_ends)])), (aX1_rows, aL cJ 2001 f_rows), (aX6_letters, aI cI 8 w_letters)] (po_X6_choose cI cJ hX6 aX6_letters w_size w_wrong hX1 aX1_rows aX1_ones aX1_twos aX1_distances aX1_reached f_swaps f_there f_size f_mostShares f_source f_looked f_ends f_rows w_letters Q) := by
  refine ct_of (by decide +kernel) (Nat.le_of_ble_eq_true rfl) (fun X hl hDD hcI hcJ hzt hR hF hnm g => ?_)
  subst hl; subst hDD; subst hcI; subst hcJ; subst hzt
  show Wat X 0 0 0 [(0, .ref hX6), (1, .ref hX1)] [] [(hX6, .inr (5, [.ref aX6_letters, .int (i32 w_size), .int (i32 w_wrong)])), (hX1, .inr (1, [.ref aX1_rows, .ref aX1_ones, .ref aX1_twos, .ref aX1_distances, .ref aX1_reached, .int (i32 f_swaps), .int (i32 f_there), .int (i32 f_size), .int (i32 f_mostShares), .int (i32 f_source), .int (i32 f_looked), .int (i32 f_ends)])), (aX1_rows, aL X.cJ 2001 f_rows), (aX6_letters, aI X.cI 8 w_letters)]
  replace g : Gd X cX6_choose RX6 (some .int) 4 := g
  rw [wp_X6_choose] at h
  refine q_iconst g (0) dX6_choose_0 ?_
  refine q_istore_n (lv' := [(2, .int (i32 0)), (0, .ref hX6), (1, .ref hX1)]) g 2 2 rfl (by decide) rfl dX6_choose_1 ?_
  refine q_iconst g (1) dX6_choose_2 ?_
  refine q_istore_n (lv' := [(3, .int (i32 1)), (2, .int (i32 0)), (0, .ref hX6), (1, .ref hX1)]) g 3 3 rfl (by decide) rfl dX6_choose_3 ?_
  refine q_lv (lv' := [(0, .ref hX6), (1, .ref hX1), (2, .int (i32 0)), (3, .int (i32 1))]) [2, 3, 1, 0] rfl ?_
  obtain ⟨n0, h⟩ := h
  exact s_X6_choose_4 g hR hX6 aX6_letters w_wrong hX1 aX1_rows aX1_ones aX1_twos aX1_distances aX1_reached f_swaps f_there f_mostShares f_source f_looked f_ends f_rows f_size w_letters w_size r_f_rows r_f_size r_w_letters r_w_size Q hF n0 0 1 (r32_lit _ (by decide)) (r32_lit _ (by decide)) h
theorem dX6_isWish_0 : decode cX6_isWish 0 = .ok (.iload_n 0, 1) := by decide +kernel
theorem dX6_isWish_1 : decode cX6_isWish 1 = .ok (.bipush 102, 2) := by decide +kernel
theorem dX6_isWish_3 : decode cX6_isWish 3 = .ok (.if_icmp .eq 33, 3) := by decide +kernel
theorem dX6_isWish_6 : decode cX6_isWish 6 = .ok (.iload_n 0, 1) := by decide +kernel
theorem dX6_isWish_7 : decode cX6_isWish 7 = .ok (.bipush 108, 2) := by decide +kernel
theorem dX6_isWish_9 : decode cX6_isWish 9 = .ok (.if_icmp .eq 27, 3) := by decide +kernel
theorem dX6_isWish_12 : decode cX6_isWish 12 = .ok (.iload_n 0, 1) := by decide +kernel
theorem dX6_isWish_13 : decode cX6_isWish 13 = .ok (.bipush 103, 2) := by decide +kernel
theorem dX6_isWish_15 : decode cX6_isWish 15 = .ok (.if_icmp .eq 21, 3) := by decide +kernel
theorem dX6_isWish_18 : decode cX6_isWish 18 = .ok (.iload_n 0, 1) := by decide +kernel
theorem dX6_isWish_19 : decode cX6_isWish 19 = .ok (.bipush 115, 2) := by decide +kernel
theorem dX6_isWish_21 : decode cX6_isWish 21 = .ok (.if_icmp .eq 15, 3) := by decide +kernel
theorem dX6_isWish_24 : decode cX6_isWish 24 = .ok (.iload_n 0, 1) := by decide +kernel
theorem dX6_isWish_25 : decode cX6_isWish 25 = .ok (.bipush 101, 2) := by decide +kernel
theorem dX6_isWish_27 : decode cX6_isWish 27 = .ok (.if_icmp .eq 9, 3) := by decide +kernel
theorem dX6_isWish_30 : decode cX6_isWish 30 = .ok (.iload_n 0, 1) := by decide +kernel
theorem dX6_isWish_31 : decode cX6_isWish 31 = .ok (.bipush 111, 2) := by decide +kernel
theorem dX6_isWish_33 : decode cX6_isWish 33 = .ok (.if_icmp .ne 7, 3) := by decide +kernel
theorem dX6_isWish_36 : decode cX6_isWish 36 = .ok (.iconst 1, 1) := by decide +kernel
theorem dX6_isWish_37 : decode cX6_isWish 37 = .ok (.goto 4, 3) := by decide +kernel
theorem dX6_isWish_40 : decode cX6_isWish 40 = .ok (.iconst 0, 1) := by decide +kernel
theorem dX6_isWish_41 : decode cX6_isWish 41 = .ok (.ireturn, 1) := by decide +kernel
abbrev po_X6_isWish (cI cJ : ClassId) (Q : Int → Prop) : Option Value → va_W → Prop := fun rv w1 => ∃ (r0 : Int), rv = some (.int (i32 r0)) ∧ w1 = [] ∧ r32 r0 ∧ Q r0
def wp_X6_isWish_41 (Q : Int → Prop) (k0 : Int) : Prop := ((k0 = 0 ∨ k0 = 1) ∧ Q k0)
set_option maxHeartbeats 4000000 in
set_option maxRecDepth 100000 in
theorem s_X6_isWish_41 {X : Cx} (g : Gd X cX6_isWish RX6 (some .boolean) 1) (hR : X.R = rmL 1 0 0) (Q : Int → Prop) (hF : FQ X 0 0 (po_X6_isWish X.cI X.cJ Q)) : ∀ (k0 : Int), r32 k0 → wp_X6_isWish_41 Q k0 → Wat X 0 0 41 [] [.int (i32 k0)] [] := by
  intro k0 r_k0 h
  rw [wp_X6_isWish_41] at h
  obtain ⟨z41, h⟩ := h
  exact q_zret g hF z41 ⟨k0, rfl, rfl, r_k0, h⟩ dX6_isWish_41
def wp_X6_isWish_36 (Q : Int → Prop) : Prop := wp_X6_isWish_41 Q 1
set_option maxHeartbeats 4000000 in
set_option maxRecDepth 100000 in
theorem s_X6_isWish_36 {X : Cx} (g : Gd X cX6_isWish RX6 (some .boolean) 1) (hR : X.R = rmL 1 0 0) (Q : Int → Prop) (hF : FQ X 0 0 (po_X6_isWish X.cI X.cJ Q)) : wp_X6_isWish_36 Q → Wat X 0 0 36 [] [] [] := by
  intro h
  rw [wp_X6_isWish_36] at h
  refine q_iconst g (1) dX6_isWish_36 ?_
  refine q_goto g (4) 41 (by decide) dX6_isWish_37 ?_
  exact s_X6_isWish_41 g hR Q hF 1 (r32_lit _ (by decide)) h
def wp_X6_isWish (Q : Int → Prop) (l0 : Int) : Prop := ((l0 = 102 → wp_X6_isWish_36 Q) ∧
  (¬ (l0 = 102) → ((l0 = 108 → wp_X6_isWish_36 Q) ∧
  (¬ (l0 = 108) → ((l0 = 103 → wp_X6_isWish_36 Q) ∧
  (¬ (l0 = 103) → ((l0 = 115 → wp_X6_isWish_36 Q) ∧
  (¬ (l0 = 115) → ((l0 = 101 → wp_X6_isWish_36 Q) ∧
  (¬ (l0 = 101) → ((¬ l0 = 111 → wp_X6_isWish_41 Q 0) ∧
  (l0 = 111 → wp_X6_isWish_36 Q))))))))))))
set_option maxHeartbeats 4000000 in
set_option maxRecDepth 100000 in
theorem c_X6_isWish (l : Launch) (D : va_G) (cI cJ : ClassId) (zt : Nat) (l0 : Int) (Q : Int → Prop) (r_l0 : r32 l0) (h : wp_X6_isWish Q l0) : Ct l D cI cJ zt yX6_isWish cX6_isWish 1 (some .boolean) 1 0 0 [.int (i32 l0)] [] (po_X6_isWish cI cJ Q) := by
  refine ct_of (by decide +kernel) (Nat.le_of_ble_eq_true rfl) (fun X hl hDD hcI hcJ hzt hR hF hnm g => ?_)
  subst hl; subst hDD; subst hcI; subst hcJ; subst hzt
  show Wat X 0 0 0 [(0, .int (i32 l0))] [] []
  replace g : Gd X cX6_isWish RX6 (some .boolean) 1 := g
  rw [wp_X6_isWish] at h
  refine q_iload_n g 0 0 rfl dX6_isWish_0 ?_
  refine q_bipush g (102) (by decide) (by decide) dX6_isWish_1 ?_
  refine q_icmp_eq g (33) 36 r_l0 (r32_lit _ (by decide)) (by decide) dX6_isWish_3 (fun b3 => ?_) (fun b3 => ?_)
  · replace h := h.1 b3
    refine q_lv (lv' := []) [] rfl ?_
    exact s_X6_isWish_36 g hR Q hF h
  replace h := h.2 b3
  refine q_iload_n g 0 0 rfl dX6_isWish_6 ?_
  refine q_bipush g (108) (by decide) (by decide) dX6_isWish_7 ?_
  refine q_icmp_eq g (27) 36 r_l0 (r32_lit _ (by decide)) (by decide) dX6_isWish_9 (fun b9 => ?_) (fun b9 => ?_)
  · replace h := h.1 b9
    refine q_lv (lv' := []) [] rfl ?_
    exact s_X6_isWish_36 g hR Q hF h
  replace h := h.2 b9
  refine q_iload_n g 0 0 rfl dX6_isWish_12 ?_
  refine q_bipush g (103) (by decide) (by decide) dX6_isWish_13 ?_
  refine q_icmp_eq g (21) 36 r_l0 (r32_lit _ (by decide)) (by decide) dX6_isWish_15 (fun b15 => ?_) (fun b15 => ?_)
  · replace h := h.1 b15
    refine q_lv (lv' := []) [] rfl ?_
    exact s_X6_isWish_36 g hR Q hF h
  replace h := h.2 b15
  refine q_iload_n g 0 0 rfl dX6_isWish_18 ?_
  refine q_bipush g (115) (by decide) (by decide) dX6_isWish_19 ?_
  refine q_icmp_eq g (15) 36 r_l0 (r32_lit _ (by decide)) (by decide) dX6_isWish_21 (fun b21 => ?_) (fun b21 => ?_)
  · replace h := h.1 b21
    refine q_lv (lv' := []) [] rfl ?_
    exact s_X6_isWish_36 g hR Q hF h
  replace h := h.2 b21
  refine q_iload_n g 0 0 rfl dX6_isWish_24 ?_
  refine q_bipush g (101) (by decide) (by decide) dX6_isWish_25 ?_
  refine q_icmp_eq g (9) 36 r_l0 (r32_lit _ (by decide)) (by decide) dX6_isWish_27 (fun b27 => ?_) (fun b27 => ?_)
  · replace h := h.1 b27
    refine q_lv (lv' := []) [] rfl ?_
    exact s_X6_isWish_36 g hR Q hF h
  replace h := h.2 b27
  refine q_iload_n g 0 0 rfl dX6_isWish_30 ?_
  refine q_bipush g (111) (by decide) (by decide) dX6_isWish_31 ?_
  refine q_icmp_ne g (7) 40 r_l0 (r32_lit _ (by decide)) (by decide) dX6_isWish_33 (fun b33 => ?_) (fun b33 => ?_)
  · replace h := h.1 b33
    refine q_iconst g (0) dX6_isWish_40 ?_
    refine q_lv (lv' := []) [] rfl ?_
    exact s_X6_isWish_41 g hR Q hF 0 (r32_lit _ (by decide)) h
  replace h := h.2 b33
  refine q_lv (lv' := []) [] rfl ?_
  exact s_X6_isWish_36 g hR Q hF h
theorem dX6_findWrong_0 : decode cX6_findWrong 0 = .ok (.iconst 0, 1) := by decide +kernel
theorem dX6_findWrong_1 : decode cX6_findWrong 1 = .ok (.istore_n 1, 1) := by decide +kernel
theorem dX6_findWrong_2 : decode cX6_findWrong 2 = .ok (.iload_n 1, 1) := by decide +kernel
theorem dX6_findWrong_3 : decode cX6_findWrong 3 = .ok (.aload_n 0, 1) := by decide +kernel
theorem dX6_findWrong_4 : decode cX6_findWrong 4 = .ok (.getfield 28, 3) := by decide +kernel
theorem dX6_findWrong_7 : decode cX6_findWrong 7 = .ok (.if_icmp .ge 53, 3) := by decide +kernel
theorem dX6_findWrong_10 : decode cX6_findWrong 10 = .ok (.aload_n 0, 1) := by decide +kernel
theorem dX6_findWrong_11 : decode cX6_findWrong 11 = .ok (.getfield 11, 3) := by decide +kernel
theorem dX6_findWrong_14 : decode cX6_findWrong 14 = .ok (.iload_n 1, 1) := by decide +kernel
theorem dX6_findWrong_15 : decode cX6_findWrong 15 = .ok (.iaload, 1) := by decide +kernel
theorem dX6_findWrong_16 : decode cX6_findWrong 16 = .ok (.invokestatic 49, 3) := by decide +kernel
theorem dX6_findWrong_19 : decode cX6_findWrong 19 = .ok (.ifCond .ne 5, 3) := by decide +kernel
theorem dX6_findWrong_22 : decode cX6_findWrong 22 = .ok (.iload_n 1, 1) := by decide +kernel
theorem dX6_findWrong_23 : decode cX6_findWrong 23 = .ok (.ireturn, 1) := by decide +kernel
theorem dX6_findWrong_24 : decode cX6_findWrong 24 = .ok (.iconst 0, 1) := by decide +kernel
theorem dX6_findWrong_25 : decode cX6_findWrong 25 = .ok (.istore_n 2, 1) := by decide +kernel
theorem dX6_findWrong_26 : decode cX6_findWrong 26 = .ok (.iload_n 2, 1) := by decide +kernel
theorem dX6_findWrong_27 : decode cX6_findWrong 27 = .ok (.iload_n 1, 1) := by decide +kernel
theorem dX6_findWrong_28 : decode cX6_findWrong 28 = .ok (.if_icmp .ge 26, 3) := by decide +kernel
theorem dX6_findWrong_31 : decode cX6_findWrong 31 = .ok (.aload_n 0, 1) := by decide +kernel
theorem dX6_findWrong_32 : decode cX6_findWrong 32 = .ok (.getfield 11, 3) := by decide +kernel
theorem dX6_findWrong_35 : decode cX6_findWrong 35 = .ok (.iload_n 2, 1) := by decide +kernel
theorem dX6_findWrong_36 : decode cX6_findWrong 36 = .ok (.iaload, 1) := by decide +kernel
theorem dX6_findWrong_37 : decode cX6_findWrong 37 = .ok (.aload_n 0, 1) := by decide +kernel
theorem dX6_findWrong_38 : decode cX6_findWrong 38 = .ok (.getfield 11, 3) := by decide +kernel
theorem dX6_findWrong_41 : decode cX6_findWrong 41 = .ok (.iload_n 1, 1) := by decide +kernel
theorem dX6_findWrong_42 : decode cX6_findWrong 42 = .ok (.iaload, 1) := by decide +kernel
theorem dX6_findWrong_43 : decode cX6_findWrong 43 = .ok (.if_icmp .ne 5, 3) := by decide +kernel
theorem dX6_findWrong_46 : decode cX6_findWrong 46 = .ok (.iload_n 1, 1) := by decide +kernel
theorem dX6_findWrong_47 : decode cX6_findWrong 47 = .ok (.ireturn, 1) := by decide +kernel
theorem dX6_findWrong_48 : decode cX6_findWrong 48 = .ok (.iinc 2 1, 3) := by decide +kernel
theorem dX6_findWrong_51 : decode cX6_findWrong 51 = .ok (.goto (-25), 3) := by decide +kernel
theorem dX6_findWrong_54 : decode cX6_findWrong 54 = .ok (.iinc 1 1, 3) := by decide +kernel
theorem dX6_findWrong_57 : decode cX6_findWrong 57 = .ok (.goto (-55), 3) := by decide +kernel
theorem dX6_findWrong_60 : decode cX6_findWrong 60 = .ok (.bipush (-4), 2) := by decide +kernel
theorem dX6_findWrong_62 : decode cX6_findWrong 62 = .ok (.ireturn, 1) := by decide +kernel
abbrev po_X6_findWrong (cI cJ : ClassId) (hX6 : Nat) (aX6_letters : Nat) (w_size : Int) (w_wrong : Int) (w_letters : Int → Int) (Q : Int → Prop) : Option Value → va_W → Prop := fun rv w1 => ∃ (r0 : Int), rv = some (.int (i32 r0)) ∧ w1 = [(hX6, .inr (5, [.ref aX6_letters, .int (i32 w_size), .int (i32 w_wrong)])), (aX6_letters, aI cI 8 w_letters)] ∧ r32 r0 ∧ Q r0
def wp_X6_findWrong_26 (Q : Int → Prop) (w_letters : Int → Int) (w_size : Int) (K_2 : Int → Prop) : Nat → Int → Int → Prop
  | 0, _, _ => False
  | n + 1, l1, l2 => ((l1 ≤ l2 → (r32 (l1 + 1) ∧ K_2 (l1 + 1))) ∧
  (¬ (l1 ≤ l2) → (0 ≤ l2 ∧ l2 < 8 ∧ 0 ≤ l1 ∧ l1 < 8 ∧ ((¬ (w_letters l2) = (w_letters l1) → (r32 (l2 + 1) ∧ wp_X6_findWrong_26 Q w_letters w_size K_2 n l1 (l2 + 1))) ∧
  ((w_letters l2) = (w_letters l1) → Q l1)))))
set_option maxHeartbeats 4000000 in
set_option maxRecDepth 100000 in
theorem s_X6_findWrong_26 {X : Cx} (g : Gd X cX6_findWrong RX6 (some .int) 3) (hR : X.R = rmL 2 0 0) (hX6 : Nat) (aX6_letters : Nat) (w_wrong : Int) (w_letters : Int → Int) (w_size : Int) (r_w_letters : rr32 w_letters) (r_w_size : r32 w_size) (Q : Int → Prop) (hF : FQ X 0 0 (po_X6_findWrong X.cI X.cJ hX6 aX6_letters w_size w_wrong w_letters Q)) (K_2 : Int → Prop) (hK_2 : ∀ (l1 : Int), r32 l1 → K_2 l1 → Wat X 0 0 2 [(0, .ref hX6), (1, .int (i32 l1))] [] [(hX6, .inr (5, [.ref aX6_letters, .int (i32 w_size), .int (i32 w_wrong)])), (aX6_letters, aI X.cI 8 w_letters)]) : ∀ (n : Nat) (l1 : Int) (l2 : Int), r32 l1 → r32 l2 → wp_X6_findWrong_26 Q w_letters w_size K_2 n l1 l2 → Wat X 0 0 26 [(0, .ref hX6), (1, .int (i32 l1)), (2, .int (i32 l2))] [] [(hX6, .inr (5, [.ref aX6_letters, .int (i32 w_size), .int (i32 w_wrong)])), (aX6_letters, aI X.cI 8 w_letters)] := by
  intro n
  induction n with
  | zero => intro l1 l2 r_l1 r_l2 h; exact False.elim h
  | succ n ih =>
    intro l1 l2 r_l1 r_l2 h
    rw [wp_X6_findWrong_26] at h
    refine q_iload_n g 2 2 rfl dX6_findWrong_26 ?_
    refine q_iload_n g 1 1 rfl dX6_findWrong_27 ?_
    refine q_icmp_ge g (26) 54 r_l2 r_l1 (by decide) dX6_findWrong_28 (fun b28 => ?_) (fun b28 => ?_)
    · replace h := h.1 b28
      obtain ⟨c54, h⟩ := h
      refine q_iinc (lv' := [(1, .int (i32 (l1 + 1))), (0, .ref hX6), (2, .int (i32 l2))]) g 1 1 1 (by decide) rfl rfl dX6_findWrong_54 ?_
      refine q_goto g (-55) 2 (by decide) dX6_findWrong_57 ?_
      refine q_lv (lv' := [(0, .ref hX6), (1, .int (i32 (l1 + 1)))]) [1, 0] rfl ?_
      exact hK_2 (l1 + 1) c54 h
    replace h := h.2 b28
    refine q_aload_n g 0 0 rfl dX6_findWrong_31 ?_
    refine q_get (C := RX6) (T := TX6) (N := 3) g 11 inX6 0 0 rfl rfl (by decide) wF_X6_11 rfl dX6_findWrong_32 ?_
    refine q_iload_n g 2 2 rfl dX6_findWrong_35 ?_
    obtain ⟨c36, h⟩ := h
    obtain ⟨e36, h⟩ := h
    refine q_iald g 1 rfl c36 e36 (by decide) dX6_findWrong_36 ?_
    refine q_aload_n g 0 0 rfl dX6_findWrong_37 ?_
    refine q_get (C := RX6) (T := TX6) (N := 3) g 11 inX6 0 0 rfl rfl (by decide) wF_X6_11 rfl dX6_findWrong_38 ?_
    refine q_iload_n g 1 1 rfl dX6_findWrong_41 ?_
    obtain ⟨c42, h⟩ := h
    obtain ⟨e42, h⟩ := h
    refine q_iald g 1 rfl c42 e42 (by decide) dX6_findWrong_42 ?_
    refine q_icmp_ne g (5) 48 (r_w_letters _) (r_w_letters _) (by decide) dX6_findWrong_43 (fun b43 => ?_) (fun b43 => ?_)
    · replace h := h.1 b43
      obtain ⟨c48, h⟩ := h
      refine q_iinc (lv' := [(2, .int (i32 (l2 + 1))), (0, .ref hX6), (1, .int (i32 l1))]) g 2 2 1 (by decide) rfl rfl dX6_findWrong_48 ?_
      refine q_goto g (-25) 26 (by decide) dX6_findWrong_51 ?_
      refine q_lv (lv' := [(0, .ref hX6), (1, .int (i32 l1)), (2, .int (i32 (l2 + 1)))]) [1, 2, 0] rfl ?_
      exact ih l1 (l2 + 1) r_l1 c48 h
    replace h := h.2 b43
    refine q_iload_n g 1 1 rfl dX6_findWrong_46 ?_
    exact q_iret g hF ⟨l1, rfl, rfl, r_l1, h⟩ dX6_findWrong_47
def wp_X6_findWrong_2 (Q : Int → Prop) (w_letters : Int → Int) (w_size : Int) : Nat → Int → Prop
  | 0, _ => False
  | n + 1, l1 => ((w_size ≤ l1 → Q (-4)) ∧
  (¬ (w_size ≤ l1) → (0 ≤ l1 ∧ l1 < 8 ∧ wp_X6_isWish (fun (x16 : Int) => ((¬ x16 = 0 → (∃ n0 : Nat, wp_X6_findWrong_26 Q w_letters w_size (wp_X6_findWrong_2 Q w_letters w_size n) n0 l1 0)) ∧
  (x16 = 0 → Q l1))) (w_letters l1))))
set_option maxHeartbeats 4000000 in
set_option maxRecDepth 100000 in
theorem s_X6_findWrong_2 {X : Cx} (g : Gd X cX6_findWrong RX6 (some .int) 3) (hR : X.R = rmL 2 0 0) (hX6 : Nat) (aX6_letters : Nat) (w_wrong : Int) (w_letters : Int → Int) (w_size : Int) (r_w_letters : rr32 w_letters) (r_w_size : r32 w_size) (Q : Int → Prop) (hF : FQ X 0 0 (po_X6_findWrong X.cI X.cJ hX6 aX6_letters w_size w_wrong w_letters Q)) : ∀ (n : Nat) (l1 : Int), r32 l1 → wp_X6_findWrong_2 Q w_letters w_size n l1 → Wat X 0 0 2 [(0, .ref hX6), (1, .int (i32 l1))] [] [(hX6, .inr (5, [.ref aX6_letters, .int (i32 w_size), .int (i32 w_wrong)])), (aX6_letters, aI X.cI 8 w_letters)] := by
  intro n
  induction n with
  | zero => intro l1 r_l1 h; exact False.elim h
  | succ n ih =>
    intro l1 r_l1 h
    rw [wp_X6_findWrong_2] at h
    refine q_iload_n g 1 1 rfl dX6_findWrong_2 ?_
    refine q_aload_n g 0 0 rfl dX6_findWrong_3 ?_
    refine q_get (C := RX6) (T := TX6) (N := 3) g 28 inX6 0 1 rfl rfl (by decide) wF_X6_28 rfl dX6_findWrong_4 ?_
    refine q_icmp_ge g (53) 60 r_l1 r_w_size (by decide) dX6_findWrong_7 (fun b7 => ?_) (fun b7 => ?_)
    · replace h := h.1 b7
      refine q_bipush g (-4) (by decide) (by decide) dX6_findWrong_60 ?_
      exact q_iret g hF ⟨(-4), rfl, rfl, (r32_lit _ (by decide)), h⟩ dX6_findWrong_62
    replace h := h.2 b7
    refine q_aload_n g 0 0 rfl dX6_findWrong_10 ?_
    refine q_get (C := RX6) (T := TX6) (N := 3) g 11 inX6 0 0 rfl rfl (by decide) wF_X6_11 rfl dX6_findWrong_11 ?_
    refine q_iload_n g 1 1 rfl dX6_findWrong_14 ?_
    obtain ⟨c15, h⟩ := h
    obtain ⟨e15, h⟩ := h
    refine q_iald g 1 rfl c15 e15 (by decide) dX6_findWrong_15 ?_
    refine q_callS (lev := 1) (mc := 0) (ms := 0) (As := [.int (i32 (w_letters l1))]) g 49 (c_X6_isWish X.l X.D X.cI X.cJ X.zt (w_letters l1) _ (r_w_letters _) h) (wr := [(hX6, .inr (5, [.ref aX6_letters, .int (i32 w_size), .int (i32 w_wrong)])), (aX6_letters, aI X.cI 8 w_letters)]) [] [0, 1] rfl rfl rfl (by decide) (by decide) (by decide) wM_X6_49 wT_X6_isWish wZ_X6 wC_X6_isWish 1 rfl (by decide +kernel) (by rw [hR]; exact ⟨by show 1 + 1 ≤ 2; omega, by show 8 + (1 + 11) + 100 * 1 ≤ 100 * 2; omega⟩) (by rw [hR]; exact ⟨Nat.le_refl _, Nat.le_refl _⟩) (Nat.le_of_ble_eq_true rfl) rfl dX6_findWrong_16 (fun rv w1 hq => ?_)
    obtain ⟨x16, rfl, rfl, rx16, h⟩ := hq
    show Wat X 0 0 19 [(0, .ref hX6), (1, .int (i32 l1))] [.int (i32 x16)] [(hX6, .inr (5, [.ref aX6_letters, .int (i32 w_size), .int (i32 w_wrong)])), (aX6_letters, aI X.cI 8 w_letters)]
    refine q_if_ne g (5) 24 rx16 (by decide) dX6_findWrong_19 (fun b19 => ?_) (fun b19 => ?_)
    · replace h := h.1 b19
      refine q_iconst g (0) dX6_findWrong_24 ?_
      refine q_istore_n (lv' := [(2, .int (i32 0)), (0, .ref hX6), (1, .int (i32 l1))]) g 2 2 rfl (by decide) rfl dX6_findWrong_25 ?_
      refine q_lv (lv' := [(0, .ref hX6), (1, .int (i32 l1)), (2, .int (i32 0))]) [1, 2, 0] rfl ?_
      obtain ⟨n0, h⟩ := h
      exact s_X6_findWrong_26 g hR hX6 aX6_letters w_wrong w_letters w_size r_w_letters r_w_size Q hF (wp_X6_findWrong_2 Q w_letters w_size n) (fun v0 w0 hh => ih v0 w0 hh) n0 l1 0 r_l1 (r32_lit _ (by decide)) h
    replace h := h.2 b19
    refine q_iload_n g 1 1 rfl dX6_findWrong_22 ?_
    exact q_iret g hF ⟨l1, rfl, rfl, r_l1, h⟩ dX6_findWrong_23
def wp_X6_findWrong (Q : Int → Prop) (w_letters : Int → Int) (w_size : Int) : Prop := (∃ n0 : Nat, wp_X6_findWrong_2 Q w_letters w_size n0 0)
set_option maxHeartbeats 4000000 in
set_option maxRecDepth 100000 in
theorem c_X6_findWrong (l : Launch) (D : va_G) (cI cJ : ClassId) (zt : Nat) (hX6 : Nat) (aX6_letters : Nat) (w_size : Int) (w_wrong : Int) (w_letters : Int → Int) (Q : Int → Prop) (r_w_letters : rr32 w_letters) (r_w_size : r32 w_size) (h : wp_X6_findWrong Q w_letters w_size) : Ct l D cI cJ zt yX6_findWrong cX6_findWrong 3 (some .int) 2 0 0 [.ref hX6] [(hX6, .inr (5, [.ref aX6_letters, .int (i32 w_size), .int (i32 w_wrong)])), (aX6_letters, aI cI 8 w_letters)] (po_X6_findWrong cI cJ hX6 aX6_letters w_size w_wrong w_letters Q) := by
  refine ct_of (by decide +kernel) (Nat.le_of_ble_eq_true rfl) (fun X hl hDD hcI hcJ hzt hR hF hnm g => ?_)
  subst hl; subst hDD; subst hcI; subst hcJ; subst hzt
  show Wat X 0 0 0 [(0, .ref hX6)] [] [(hX6, .inr (5, [.ref aX6_letters, .int (i32 w_size), .int (i32 w_wrong)])), (aX6_letters, aI X.cI 8 w_letters)]
  replace g : Gd X cX6_findWrong RX6 (some .int) 3 := g
  rw [wp_X6_findWrong] at h
  refine q_iconst g (0) dX6_findWrong_0 ?_
  refine q_istore_n (lv' := [(1, .int (i32 0)), (0, .ref hX6)]) g 1 1 rfl (by decide) rfl dX6_findWrong_1 ?_
  refine q_lv (lv' := [(0, .ref hX6), (1, .int (i32 0))]) [1, 0] rfl ?_
  obtain ⟨n0, h⟩ := h
  exact s_X6_findWrong_2 g hR hX6 aX6_letters w_wrong w_letters w_size r_w_letters r_w_size Q hF n0 0 (r32_lit _ (by decide)) h
theorem dX6_firstWrong_0 : decode cX6_firstWrong 0 = .ok (.aload_n 0, 1) := by decide +kernel
theorem dX6_firstWrong_1 : decode cX6_firstWrong 1 = .ok (.getfield 15, 3) := by decide +kernel
theorem dX6_firstWrong_4 : decode cX6_firstWrong 4 = .ok (.ireturn, 1) := by decide +kernel
abbrev po_X6_firstWrong (cI cJ : ClassId) (hX6 : Nat) (aX6_letters : Nat) (w_size : Int) (w_wrong : Int) (Q : Int → Prop) : Option Value → va_W → Prop := fun rv w1 => ∃ (r0 : Int), rv = some (.int (i32 r0)) ∧ w1 = [(hX6, .inr (5, [.ref aX6_letters, .int (i32 w_size), .int (i32 w_wrong)]))] ∧ r32 r0 ∧ Q r0
def wp_X6_firstWrong (Q : Int → Prop) (w_wrong : Int) : Prop := Q w_wrong
set_option maxHeartbeats 4000000 in
set_option maxRecDepth 100000 in
theorem c_X6_firstWrong (l : Launch) (D : va_G) (cI cJ : ClassId) (zt : Nat) (hX6 : Nat) (aX6_letters : Nat) (w_size : Int) (w_wrong : Int) (Q : Int → Prop) (r_w_wrong : r32 w_wrong) (h : wp_X6_firstWrong Q w_wrong) : Ct l D cI cJ zt yX6_firstWrong cX6_firstWrong 1 (some .int) 1 0 0 [.ref hX6] [(hX6, .inr (5, [.ref aX6_letters, .int (i32 w_size), .int (i32 w_wrong)]))] (po_X6_firstWrong cI cJ hX6 aX6_letters w_size w_wrong Q) := by
  refine ct_of (by decide +kernel) (Nat.le_of_ble_eq_true rfl) (fun X hl hDD hcI hcJ hzt hR hF hnm g => ?_)
  subst hl; subst hDD; subst hcI; subst hcJ; subst hzt
  show Wat X 0 0 0 [(0, .ref hX6)] [] [(hX6, .inr (5, [.ref aX6_letters, .int (i32 w_size), .int (i32 w_wrong)]))]
  replace g : Gd X cX6_firstWrong RX6 (some .int) 1 := g
  rw [wp_X6_firstWrong] at h
  refine q_aload_n g 0 0 rfl dX6_firstWrong_0 ?_
  refine q_get (C := RX6) (T := TX6) (N := 3) g 15 inX6 0 2 rfl rfl (by decide) wF_X6_15 rfl dX6_firstWrong_1 ?_
  exact q_iret g hF ⟨w_wrong, rfl, rfl, r_w_wrong, h⟩ dX6_firstWrong_4
theorem dX6_size_0 : decode cX6_size 0 = .ok (.aload_n 0, 1) := by decide +kernel
theorem dX6_size_1 : decode cX6_size 1 = .ok (.getfield 28, 3) := by decide +kernel
theorem dX6_size_4 : decode cX6_size 4 = .ok (.ireturn, 1) := by decide +kernel
abbrev po_X6_size (cI cJ : ClassId) (hX6 : Nat) (aX6_letters : Nat) (w_size : Int) (w_wrong : Int) (Q : Int → Prop) : Option Value → va_W → Prop := fun rv w1 => ∃ (r0 : Int), rv = some (.int (i32 r0)) ∧ w1 = [(hX6, .inr (5, [.ref aX6_letters, .int (i32 w_size), .int (i32 w_wrong)]))] ∧ r32 r0 ∧ Q r0
def wp_X6_size (Q : Int → Prop) (w_size : Int) : Prop := Q w_size
set_option maxHeartbeats 4000000 in
set_option maxRecDepth 100000 in
theorem c_X6_size (l : Launch) (D : va_G) (cI cJ : ClassId) (zt : Nat) (hX6 : Nat) (aX6_letters : Nat) (w_size : Int) (w_wrong : Int) (Q : Int → Prop) (r_w_size : r32 w_size) (h : wp_X6_size Q w_size) : Ct l D cI cJ zt yX6_size cX6_size 1 (some .int) 1 0 0 [.ref hX6] [(hX6, .inr (5, [.ref aX6_letters, .int (i32 w_size), .int (i32 w_wrong)]))] (po_X6_size cI cJ hX6 aX6_letters w_size w_wrong Q) := by
  refine ct_of (by decide +kernel) (Nat.le_of_ble_eq_true rfl) (fun X hl hDD hcI hcJ hzt hR hF hnm g => ?_)
  subst hl; subst hDD; subst hcI; subst hcJ; subst hzt
  show Wat X 0 0 0 [(0, .ref hX6)] [] [(hX6, .inr (5, [.ref aX6_letters, .int (i32 w_size), .int (i32 w_wrong)]))]
  replace g : Gd X cX6_size RX6 (some .int) 1 := g
  rw [wp_X6_size] at h
  refine q_aload_n g 0 0 rfl dX6_size_0 ?_
  refine q_get (C := RX6) (T := TX6) (N := 3) g 28 inX6 0 1 rfl rfl (by decide) wF_X6_28 rfl dX6_size_1 ?_
  exact q_iret g hF ⟨w_size, rfl, rfl, r_w_size, h⟩ dX6_size_4
theorem dX6_tell_0 : decode cX6_tell 0 = .ok (.aload_n 0, 1) := by decide +kernel
theorem dX6_tell_1 : decode cX6_tell 1 = .ok (.iconst 0, 1) := by decide +kernel
theorem dX6_tell_2 : decode cX6_tell 2 = .ok (.iload_n 1, 1) := by decide +kernel
theorem dX6_tell_3 : decode cX6_tell 3 = .ok (.bipush 8, 2) := by decide +kernel
theorem dX6_tell_5 : decode cX6_tell 5 = .ok (.invokestatic 19, 3) := by decide +kernel
theorem dX6_tell_8 : decode cX6_tell 8 = .ok (.invokestatic 25, 3) := by decide +kernel
theorem dX6_tell_11 : decode cX6_tell 11 = .ok (.putfield 28, 3) := by decide +kernel
theorem dX6_tell_14 : decode cX6_tell 14 = .ok (.iconst 0, 1) := by decide +kernel
theorem dX6_tell_15 : decode cX6_tell 15 = .ok (.istore 4, 2) := by decide +kernel
theorem dX6_tell_17 : decode cX6_tell 17 = .ok (.iload 4, 2) := by decide +kernel
theorem dX6_tell_19 : decode cX6_tell 19 = .ok (.aload_n 0, 1) := by decide +kernel
theorem dX6_tell_20 : decode cX6_tell 20 = .ok (.getfield 28, 3) := by decide +kernel
theorem dX6_tell_23 : decode cX6_tell 23 = .ok (.if_icmp .ge 35, 3) := by decide +kernel
theorem dX6_tell_26 : decode cX6_tell 26 = .ok (.aload_n 0, 1) := by decide +kernel
theorem dX6_tell_27 : decode cX6_tell 27 = .ok (.getfield 11, 3) := by decide +kernel
theorem dX6_tell_30 : decode cX6_tell 30 = .ok (.iload 4, 2) := by decide +kernel
theorem dX6_tell_32 : decode cX6_tell 32 = .ok (.lload_n 2, 1) := by decide +kernel
theorem dX6_tell_33 : decode cX6_tell 33 = .ok (.bipush 8, 2) := by decide +kernel
theorem dX6_tell_35 : decode cX6_tell 35 = .ok (.aload_n 0, 1) := by decide +kernel
theorem dX6_tell_36 : decode cX6_tell 36 = .ok (.getfield 28, 3) := by decide +kernel
theorem dX6_tell_39 : decode cX6_tell 39 = .ok (.iconst 1, 1) := by decide +kernel
theorem dX6_tell_40 : decode cX6_tell 40 = .ok (.isub, 1) := by decide +kernel
theorem dX6_tell_41 : decode cX6_tell 41 = .ok (.iload 4, 2) := by decide +kernel
theorem dX6_tell_43 : decode cX6_tell 43 = .ok (.isub, 1) := by decide +kernel
theorem dX6_tell_44 : decode cX6_tell 44 = .ok (.imul, 1) := by decide +kernel
theorem dX6_tell_45 : decode cX6_tell 45 = .ok (.lushr, 1) := by decide +kernel
theorem dX6_tell_46 : decode cX6_tell 46 = .ok (.ldc2_w 31, 3) := by decide +kernel
theorem dX6_tell_49 : decode cX6_tell 49 = .ok (.land, 1) := by decide +kernel
theorem dX6_tell_50 : decode cX6_tell 50 = .ok (.l2i, 1) := by decide +kernel
theorem dX6_tell_51 : decode cX6_tell 51 = .ok (.iastore, 1) := by decide +kernel
theorem dX6_tell_52 : decode cX6_tell 52 = .ok (.iinc 4 1, 3) := by decide +kernel
theorem dX6_tell_55 : decode cX6_tell 55 = .ok (.goto (-38), 3) := by decide +kernel
theorem dX6_tell_58 : decode cX6_tell 58 = .ok (.aload_n 0, 1) := by decide +kernel
theorem dX6_tell_59 : decode cX6_tell 59 = .ok (.aload_n 0, 1) := by decide +kernel
theorem dX6_tell_60 : decode cX6_tell 60 = .ok (.invokevirtual 33, 3) := by decide +kernel
theorem dX6_tell_63 : decode cX6_tell 63 = .ok (.putfield 15, 3) := by decide +kernel
theorem dX6_tell_66 : decode cX6_tell 66 = .ok (.return_, 1) := by decide +kernel
abbrev po_X6_tell (cI cJ : ClassId) (hX6 : Nat) (aX6_letters : Nat) (Q : (Int → Int) → Int → Int → Prop) : Option Value → va_W → Prop := fun rv w1 => ∃ (w_letters : Int → Int) (w_size : Int) (w_wrong : Int), rv = none ∧ w1 = [(hX6, .inr (5, [.ref aX6_letters, .int (i32 w_size), .int (i32 w_wrong)])), (aX6_letters, aI cI 8 w_letters)] ∧ rr32 w_letters ∧ r32 w_size ∧ r32 w_wrong ∧ Q w_letters w_size w_wrong
def wp_X6_tell_17 (Q : (Int → Int) → Int → Int → Prop) : Nat → (Int → Int) → Int → Int → Int → Int → Prop
  | 0, _, _, _, _, _ => False
  | n + 1, w_letters, w_size, w_wrong, l2, l4 => ((w_size ≤ l4 → wp_X6_findWrong (fun (x60 : Int) => Q w_letters w_size x60) w_letters w_size) ∧
  (¬ (w_size ≤ l4) → (r32 (w_size - 1) ∧ r32 ((w_size - 1) - l4) ∧ r32 (8 * ((w_size - 1) - l4)) ∧ r32 (land64 (ushr64 l2 (8 * ((w_size - 1) - l4))) 255) ∧ ∀ x51 : Int, x51 = (land64 (ushr64 l2 (8 * ((w_size - 1) - l4))) 255) → 0 ≤ l4 ∧ l4 < 8 ∧ r32 (l4 + 1) ∧ wp_X6_tell_17 Q n (ups w_letters l4 x51) w_size w_wrong l2 (l4 + 1))))
set_option maxHeartbeats 4000000 in
set_option maxRecDepth 100000 in
theorem s_X6_tell_17 {X : Cx} (g : Gd X cX6_tell RX6 none 5) (hR : X.R = rmL 3 0 0) (hX6 : Nat) (aX6_letters : Nat) (Q : (Int → Int) → Int → Int → Prop) (hF : FQ X 0 0 (po_X6_tell X.cI X.cJ hX6 aX6_letters Q)) : ∀ (n : Nat) (w_letters : Int → Int) (w_size : Int) (w_wrong : Int) (l2 : Int) (l4 : Int), rr32 w_letters → r32 w_size → r32 w_wrong → r64 l2 → r32 l4 → wp_X6_tell_17 Q n w_letters w_size w_wrong l2 l4 → Wat X 0 0 17 [(0, .ref hX6), (2, .long (i64 l2)), (4, .int (i32 l4))] [] [(hX6, .inr (5, [.ref aX6_letters, .int (i32 w_size), .int (i32 w_wrong)])), (aX6_letters, aI X.cI 8 w_letters)] := by
  intro n
  induction n with
  | zero => intro w_letters w_size w_wrong l2 l4 r_w_letters r_w_size r_w_wrong r_l2 r_l4 h; exact False.elim h
  | succ n ih =>
    intro w_letters w_size w_wrong l2 l4 r_w_letters r_w_size r_w_wrong r_l2 r_l4 h
    rw [wp_X6_tell_17] at h
    refine q_iload g 4 2 rfl dX6_tell_17 ?_
    refine q_aload_n g 0 0 rfl dX6_tell_19 ?_
    refine q_get (C := RX6) (T := TX6) (N := 3) g 28 inX6 0 1 rfl rfl (by decide) wF_X6_28 rfl dX6_tell_20 ?_
    refine q_icmp_ge g (35) 58 r_l4 r_w_size (by decide) dX6_tell_23 (fun b23 => ?_) (fun b23 => ?_)
    · replace h := h.1 b23
      refine q_aload_n g 0 0 rfl dX6_tell_58 ?_
      refine q_aload_n g 0 0 rfl dX6_tell_59 ?_
      refine q_callV (lev := 2) (mc := 0) (ms := 0) g 33 (c_X6_findWrong X.l X.D X.cI X.cJ X.zt hX6 aX6_letters w_size w_wrong w_letters _ r_w_letters r_w_size h) (wr := []) [0, 1] [] rfl rfl rfl (by decide) (by decide) (by decide) (ci := 5) rfl rfl rfl wM_X6_33 wI_X6_findWrong wS_X6_findWrong wZ_X6 wC_X6_findWrong 0 rfl (by decide +kernel) (by rw [hR]; exact ⟨by show 2 + 1 ≤ 3; omega, by show 8 + (3 + 11) + 100 * 2 ≤ 100 * 3; omega⟩) (by rw [hR]; exact ⟨Nat.le_refl _, Nat.le_refl _⟩) (Nat.le_of_ble_eq_true rfl) rfl dX6_tell_60 (fun rv w1 hq => ?_)
      obtain ⟨x60, rfl, rfl, rx60, h⟩ := hq
      show Wat X 0 0 63 [(0, .ref hX6), (2, .long (i64 l2)), (4, .int (i32 l4))] [.int (i32 x60), .ref hX6] [(hX6, .inr (5, [.ref aX6_letters, .int (i32 w_size), .int (i32 w_wrong)])), (aX6_letters, aI X.cI 8 w_letters)]
      refine q_put (C := RX6) (T := TX6) (N := 3) (ty := .int) (ws' := [(hX6, .inr (5, [.ref aX6_letters, .int (i32 w_size), .int (i32 x60)])), (aX6_letters, aI X.cI 8 w_letters)]) g 15 inX6 tyX6_ok nmX6 0 2 rfl rfl (by decide) wF_X6_15 rfl rfl rfl rfl (Nat.le_of_ble_eq_true rfl) rfl dX6_tell_63 ?_
      exact q_vret g hF ⟨w_letters, w_size, x60, rfl, rfl, r_w_letters, r_w_size, rx60, h⟩ dX6_tell_66
    replace h := h.2 b23
    refine q_aload_n g 0 0 rfl dX6_tell_26 ?_
    refine q_get (C := RX6) (T := TX6) (N := 3) g 11 inX6 0 0 rfl rfl (by decide) wF_X6_11 rfl dX6_tell_27 ?_
    refine q_iload g 4 2 rfl dX6_tell_30 ?_
    refine q_lload_n g 2 1 rfl dX6_tell_32 ?_
    refine q_bipush g (8) (by decide) (by decide) dX6_tell_33 ?_
    refine q_aload_n g 0 0 rfl dX6_tell_35 ?_
    refine q_get (C := RX6) (T := TX6) (N := 3) g 28 inX6 0 1 rfl rfl (by decide) wF_X6_28 rfl dX6_tell_36 ?_
    refine q_iconst g (1) dX6_tell_39 ?_
    obtain ⟨c40, h⟩ := h
    refine q_isub g dX6_tell_40 ?_
    refine q_iload g 4 2 rfl dX6_tell_41 ?_
    obtain ⟨c43, h⟩ := h
    refine q_isub g dX6_tell_43 ?_
    obtain ⟨c44, h⟩ := h
    refine q_imul g dX6_tell_44 ?_
    refine q_lushr g dX6_tell_45 ?_
    refine q_ldc2 (w := 255) g 31 (255) (by decide +kernel) wL_X6_31 dX6_tell_46 ?_
    refine q_land g dX6_tell_49 ?_
    obtain ⟨c50, h⟩ := h
    refine q_l2i g dX6_tell_50 ?_
    refine q_topi c50 (fun x51 ex51 rx51 => ?_)
    replace h := h x51 ex51
    obtain ⟨c51, h⟩ := h
    obtain ⟨e51, h⟩ := h
    refine q_iast (ws' := [(hX6, .inr (5, [.ref aX6_letters, .int (i32 w_size), .int (i32 w_wrong)])), (aX6_letters, aI X.cI 8 (ups w_letters l4 x51))]) g 1 rfl c51 e51 (by decide) rfl dX6_tell_51 ?_
    obtain ⟨c52, h⟩ := h
    refine q_iinc (lv' := [(4, .int (i32 (l4 + 1))), (0, .ref hX6), (2, .long (i64 l2))]) g 4 2 1 (by decide) rfl rfl dX6_tell_52 ?_
    refine q_goto g (-38) 17 (by decide) dX6_tell_55 ?_
    refine q_lv (lv' := [(0, .ref hX6), (2, .long (i64 l2)), (4, .int (i32 (l4 + 1)))]) [1, 2, 0] rfl ?_
    exact ih (ups w_letters l4 x51) w_size w_wrong l2 (l4 + 1) (rr32_u r_w_letters rx51) r_w_size r_w_wrong r_l2 c52 h
def wp_X6_tell (Q : (Int → Int) → Int → Int → Prop) (w_letters : Int → Int) (w_size : Int) (w_wrong : Int) (l1 : Int) (l2 : Int) : Prop := (∀ x11 : Int, x11 = (max 0 (min l1 8)) → (∃ n0 : Nat, wp_X6_tell_17 Q n0 w_letters x11 w_wrong l2 0))
set_option maxHeartbeats 4000000 in
set_option maxRecDepth 100000 in
theorem c_X6_tell (l : Launch) (D : va_G) (cI cJ : ClassId) (zt : Nat) (hX6 : Nat) (aX6_letters : Nat) (w_size : Int) (w_wrong : Int) (w_letters : Int → Int) (l1 : Int) (l2 : Int) (Q : (Int → Int) → Int → Int → Prop) (r_w_letters : rr32 w_letters) (r_w_size : r32 w_size) (r_w_wrong : r32 w_wrong) (r_l1 : r32 l1) (r_l2 : r64 l2) (h : wp_X6_tell Q w_letters w_size w_wrong l1 l2) : Ct l D cI cJ zt yX6_tell cX6_tell 5 none 3 0 0 [.ref hX6, .int (i32 l1), .long (i64 l2)] [(hX6, .inr (5, [.ref aX6_letters, .int (i32 w_size), .int (i32 w_wrong)])), (aX6_letters, aI cI 8 w_letters)] (po_X6_tell cI cJ hX6 aX6_letters Q) := by
  refine ct_of (by decide +kernel) (Nat.le_of_ble_eq_true rfl) (fun X hl hDD hcI hcJ hzt hR hF hnm g => ?_)
  subst hl; subst hDD; subst hcI; subst hcJ; subst hzt
  show Wat X 0 0 0 [(0, .ref hX6), (1, .int (i32 l1)), (2, .long (i64 l2))] [] [(hX6, .inr (5, [.ref aX6_letters, .int (i32 w_size), .int (i32 w_wrong)])), (aX6_letters, aI X.cI 8 w_letters)]
  replace g : Gd X cX6_tell RX6 none 5 := g
  rw [wp_X6_tell] at h
  refine q_aload_n g 0 0 rfl dX6_tell_0 ?_
  refine q_iconst g (0) dX6_tell_1 ?_
  refine q_iload_n g 1 1 rfl dX6_tell_2 ?_
  refine q_bipush g (8) (by decide) (by decide) dX6_tell_3 ?_
  refine q_mminI g 19 r_l1 (r32_lit _ (by decide)) wM_X6_19 wT_J9_min_7cf53 wZ_J9 wC_J9_min_7cf53 (by rw [hR]; exact ⟨by show 1 ≤ 3; omega, by show 100 ≤ 100 * 3; omega, Nat.le_refl _, Nat.le_refl _⟩) (Nat.le_of_ble_eq_true rfl) dX6_tell_5 ?_
  refine q_mmaxI g 25 (r32_lit _ (by decide)) (r32_min r_l1 (r32_lit _ (by decide))) wM_X6_25 wT_J9_max_7cf53 wZ_J9 wC_J9_max_7cf53 (by rw [hR]; exact ⟨by show 1 ≤ 3; omega, by show 100 ≤ 100 * 3; omega, Nat.le_refl _, Nat.le_refl _⟩) (Nat.le_of_ble_eq_true rfl) dX6_tell_8 ?_
  refine q_topi (r32_max (r32_lit _ (by decide)) (r32_min r_l1 (r32_lit _ (by decide)))) (fun x11 ex11 rx11 => ?_)
  replace h := h x11 ex11
  refine q_put (C := RX6) (T := TX6) (N := 3) (ty := .int) (ws' := [(hX6, .inr (5, [.ref aX6_letters, .int (i32 x11), .int (i32 w_wrong)])), (aX6_letters, aI X.cI 8 w_letters)]) g 28 inX6 tyX6_ok nmX6 0 1 rfl rfl (by decide) wF_X6_28 rfl rfl rfl rfl (Nat.le_of_ble_eq_true rfl) rfl dX6_tell_11 ?_
  refine q_iconst g (0) dX6_tell_14 ?_
  refine q_istore (lv' := [(4, .int (i32 0)), (0, .ref hX6), (1, .int (i32 l1)), (2, .long (i64 l2))]) g 4   (by decide) rfl dX6_tell_15 ?_
  refine q_lv (lv' := [(0, .ref hX6), (2, .long (i64 l2)), (4, .int (i32 0))]) [1, 3, 0] rfl ?_
  obtain ⟨n0, h⟩ := h
  exact s_X6_tell_17 g hR hX6 aX6_letters Q hF n0 w_letters x11 w_wrong l2 0 r_w_letters rx11 r_w_wrong r_l2 (r32_lit _ (by decide)) h
