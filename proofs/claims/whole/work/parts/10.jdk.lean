theorem wL_J13_314 : Cond.constantLong RJ13 314 (6148914691236517205) ∈ TT := List.mem_filter.mpr ⟨List.mem_append_right _ (List.mem_of_getElem? (i := 453) (by decide +kernel)), rfl⟩
theorem wL_J13_316 : Cond.constantLong RJ13 316 (3689348814741910323) ∈ TT := List.mem_filter.mpr ⟨List.mem_append_right _ (List.mem_of_getElem? (i := 454) (by decide +kernel)), rfl⟩
theorem wL_J13_318 : Cond.constantLong RJ13 318 (1085102592571150095) ∈ TT := List.mem_filter.mpr ⟨List.mem_append_right _ (List.mem_of_getElem? (i := 455) (by decide +kernel)), rfl⟩
theorem dJ13_bitCount_95d88_0 : decode cJ13_bitCount_95d88 0 = .ok (.lload_n 0, 1) := by decide +kernel
theorem dJ13_bitCount_95d88_1 : decode cJ13_bitCount_95d88 1 = .ok (.lload_n 0, 1) := by decide +kernel
theorem dJ13_bitCount_95d88_2 : decode cJ13_bitCount_95d88 2 = .ok (.iconst 1, 1) := by decide +kernel
theorem dJ13_bitCount_95d88_3 : decode cJ13_bitCount_95d88 3 = .ok (.lushr, 1) := by decide +kernel
theorem dJ13_bitCount_95d88_4 : decode cJ13_bitCount_95d88 4 = .ok (.ldc2_w 314, 3) := by decide +kernel
theorem dJ13_bitCount_95d88_7 : decode cJ13_bitCount_95d88 7 = .ok (.land, 1) := by decide +kernel
theorem dJ13_bitCount_95d88_8 : decode cJ13_bitCount_95d88 8 = .ok (.lsub, 1) := by decide +kernel
theorem dJ13_bitCount_95d88_9 : decode cJ13_bitCount_95d88 9 = .ok (.lstore_n 0, 1) := by decide +kernel
theorem dJ13_bitCount_95d88_10 : decode cJ13_bitCount_95d88 10 = .ok (.lload_n 0, 1) := by decide +kernel
theorem dJ13_bitCount_95d88_11 : decode cJ13_bitCount_95d88 11 = .ok (.ldc2_w 316, 3) := by decide +kernel
theorem dJ13_bitCount_95d88_14 : decode cJ13_bitCount_95d88 14 = .ok (.land, 1) := by decide +kernel
theorem dJ13_bitCount_95d88_15 : decode cJ13_bitCount_95d88 15 = .ok (.lload_n 0, 1) := by decide +kernel
theorem dJ13_bitCount_95d88_16 : decode cJ13_bitCount_95d88 16 = .ok (.iconst 2, 1) := by decide +kernel
theorem dJ13_bitCount_95d88_17 : decode cJ13_bitCount_95d88 17 = .ok (.lushr, 1) := by decide +kernel
theorem dJ13_bitCount_95d88_18 : decode cJ13_bitCount_95d88 18 = .ok (.ldc2_w 316, 3) := by decide +kernel
theorem dJ13_bitCount_95d88_21 : decode cJ13_bitCount_95d88 21 = .ok (.land, 1) := by decide +kernel
theorem dJ13_bitCount_95d88_22 : decode cJ13_bitCount_95d88 22 = .ok (.ladd, 1) := by decide +kernel
theorem dJ13_bitCount_95d88_23 : decode cJ13_bitCount_95d88 23 = .ok (.lstore_n 0, 1) := by decide +kernel
theorem dJ13_bitCount_95d88_24 : decode cJ13_bitCount_95d88 24 = .ok (.lload_n 0, 1) := by decide +kernel
theorem dJ13_bitCount_95d88_25 : decode cJ13_bitCount_95d88 25 = .ok (.lload_n 0, 1) := by decide +kernel
theorem dJ13_bitCount_95d88_26 : decode cJ13_bitCount_95d88 26 = .ok (.iconst 4, 1) := by decide +kernel
theorem dJ13_bitCount_95d88_27 : decode cJ13_bitCount_95d88 27 = .ok (.lushr, 1) := by decide +kernel
theorem dJ13_bitCount_95d88_28 : decode cJ13_bitCount_95d88 28 = .ok (.ladd, 1) := by decide +kernel
theorem dJ13_bitCount_95d88_29 : decode cJ13_bitCount_95d88 29 = .ok (.ldc2_w 318, 3) := by decide +kernel
theorem dJ13_bitCount_95d88_32 : decode cJ13_bitCount_95d88 32 = .ok (.land, 1) := by decide +kernel
theorem dJ13_bitCount_95d88_33 : decode cJ13_bitCount_95d88 33 = .ok (.lstore_n 0, 1) := by decide +kernel
theorem dJ13_bitCount_95d88_34 : decode cJ13_bitCount_95d88 34 = .ok (.lload_n 0, 1) := by decide +kernel
theorem dJ13_bitCount_95d88_35 : decode cJ13_bitCount_95d88 35 = .ok (.lload_n 0, 1) := by decide +kernel
theorem dJ13_bitCount_95d88_36 : decode cJ13_bitCount_95d88 36 = .ok (.bipush 8, 2) := by decide +kernel
theorem dJ13_bitCount_95d88_38 : decode cJ13_bitCount_95d88 38 = .ok (.lushr, 1) := by decide +kernel
theorem dJ13_bitCount_95d88_39 : decode cJ13_bitCount_95d88 39 = .ok (.ladd, 1) := by decide +kernel
theorem dJ13_bitCount_95d88_40 : decode cJ13_bitCount_95d88 40 = .ok (.lstore_n 0, 1) := by decide +kernel
theorem dJ13_bitCount_95d88_41 : decode cJ13_bitCount_95d88 41 = .ok (.lload_n 0, 1) := by decide +kernel
theorem dJ13_bitCount_95d88_42 : decode cJ13_bitCount_95d88 42 = .ok (.lload_n 0, 1) := by decide +kernel
theorem dJ13_bitCount_95d88_43 : decode cJ13_bitCount_95d88 43 = .ok (.bipush 16, 2) := by decide +kernel
theorem dJ13_bitCount_95d88_45 : decode cJ13_bitCount_95d88 45 = .ok (.lushr, 1) := by decide +kernel
theorem dJ13_bitCount_95d88_46 : decode cJ13_bitCount_95d88 46 = .ok (.ladd, 1) := by decide +kernel
theorem dJ13_bitCount_95d88_47 : decode cJ13_bitCount_95d88 47 = .ok (.lstore_n 0, 1) := by decide +kernel
theorem dJ13_bitCount_95d88_48 : decode cJ13_bitCount_95d88 48 = .ok (.lload_n 0, 1) := by decide +kernel
theorem dJ13_bitCount_95d88_49 : decode cJ13_bitCount_95d88 49 = .ok (.lload_n 0, 1) := by decide +kernel
theorem dJ13_bitCount_95d88_50 : decode cJ13_bitCount_95d88 50 = .ok (.bipush 32, 2) := by decide +kernel
theorem dJ13_bitCount_95d88_52 : decode cJ13_bitCount_95d88 52 = .ok (.lushr, 1) := by decide +kernel
theorem dJ13_bitCount_95d88_53 : decode cJ13_bitCount_95d88 53 = .ok (.ladd, 1) := by decide +kernel
theorem dJ13_bitCount_95d88_54 : decode cJ13_bitCount_95d88 54 = .ok (.lstore_n 0, 1) := by decide +kernel
theorem dJ13_bitCount_95d88_55 : decode cJ13_bitCount_95d88 55 = .ok (.lload_n 0, 1) := by decide +kernel
theorem dJ13_bitCount_95d88_56 : decode cJ13_bitCount_95d88 56 = .ok (.l2i, 1) := by decide +kernel
theorem dJ13_bitCount_95d88_57 : decode cJ13_bitCount_95d88 57 = .ok (.bipush 127, 2) := by decide +kernel
theorem dJ13_bitCount_95d88_59 : decode cJ13_bitCount_95d88 59 = .ok (.iand, 1) := by decide +kernel
theorem dJ13_bitCount_95d88_60 : decode cJ13_bitCount_95d88 60 = .ok (.ireturn, 1) := by decide +kernel
abbrev po_J13_bitCount_95d88 (cI cJ : ClassId) (Q : Int → Prop) : Option Value → va_W → Prop := fun rv w1 => ∃ (r0 : Int), rv = some (.int (i32 r0)) ∧ w1 = [] ∧ r32 r0 ∧ Q r0
def wp_J13_bitCount_95d88 (Q : Int → Prop) (l0 : Int) : Prop := (∀ x9 : Int, x9 = (subw64 l0 (land64 (ushr64 l0 1) 6148914691236517205)) → ∀ x23 : Int, x23 = (addw64 (land64 x9 3689348814741910323) (land64 (ushr64 x9 2) 3689348814741910323)) → ∀ x33 : Int, x33 = (land64 (addw64 x23 (ushr64 x23 4)) 1085102592571150095) → ∀ x40 : Int, x40 = (addw64 x33 (ushr64 x33 8)) → ∀ x47 : Int, x47 = (addw64 x40 (ushr64 x40 16)) → ∀ x54 : Int, x54 = (addw64 x47 (ushr64 x47 32)) → Q (land32 (l2iw x54) 127))
set_option maxHeartbeats 4000000 in
set_option maxRecDepth 100000 in
theorem c_J13_bitCount_95d88 (l : Launch) (D : va_G) (cI cJ : ClassId) (zt : Nat) (l0 : Int) (Q : Int → Prop) (r_l0 : r64 l0) (h : wp_J13_bitCount_95d88 Q l0) : Ct l D cI cJ zt yJ13_bitCount_95d88 cJ13_bitCount_95d88 2 (some .int) 1 0 0 [.long (i64 l0)] [] (po_J13_bitCount_95d88 cI cJ Q) := by
  refine ct_of (by decide +kernel) (Nat.le_of_ble_eq_true rfl) (fun X hl hDD hcI hcJ hzt hR hF hnm g => ?_)
  subst hl; subst hDD; subst hcI; subst hcJ; subst hzt
  show Wat X 0 0 0 [(0, .long (i64 l0))] [] []
  replace g : Gd X cJ13_bitCount_95d88 RJ13 (some .int) 2 := g
  rw [wp_J13_bitCount_95d88] at h
  refine q_lload_n g 0 0 rfl dJ13_bitCount_95d88_0 ?_
  refine q_lload_n g 0 0 rfl dJ13_bitCount_95d88_1 ?_
  refine q_iconst g (1) dJ13_bitCount_95d88_2 ?_
  refine q_lushr g dJ13_bitCount_95d88_3 ?_
  refine q_ldc2 (w := 6148914691236517205) g 314 (6148914691236517205) (by decide +kernel) wL_J13_314 dJ13_bitCount_95d88_4 ?_
  refine q_land g dJ13_bitCount_95d88_7 ?_
  refine q_lsubw g dJ13_bitCount_95d88_8 ?_
  refine q_topl (r_subw64 _ _) (fun x9 ex9 rx9 => ?_)
  replace h := h x9 ex9
  refine q_lstore_n (lv' := [(0, .long (i64 x9))]) g 0 0 rfl (by decide) rfl dJ13_bitCount_95d88_9 ?_
  refine q_lload_n g 0 0 rfl dJ13_bitCount_95d88_10 ?_
  refine q_ldc2 (w := 3689348814741910323) g 316 (3689348814741910323) (by decide +kernel) wL_J13_316 dJ13_bitCount_95d88_11 ?_
  refine q_land g dJ13_bitCount_95d88_14 ?_
  refine q_lload_n g 0 0 rfl dJ13_bitCount_95d88_15 ?_
  refine q_iconst g (2) dJ13_bitCount_95d88_16 ?_
  refine q_lushr g dJ13_bitCount_95d88_17 ?_
  refine q_ldc2 (w := 3689348814741910323) g 316 (3689348814741910323) (by decide +kernel) wL_J13_316 dJ13_bitCount_95d88_18 ?_
  refine q_land g dJ13_bitCount_95d88_21 ?_
  refine q_laddw g dJ13_bitCount_95d88_22 ?_
  refine q_topl (r_addw64 _ _) (fun x23 ex23 rx23 => ?_)
  replace h := h x23 ex23
  refine q_lstore_n (lv' := [(0, .long (i64 x23))]) g 0 0 rfl (by decide) rfl dJ13_bitCount_95d88_23 ?_
  refine q_lload_n g 0 0 rfl dJ13_bitCount_95d88_24 ?_
  refine q_lload_n g 0 0 rfl dJ13_bitCount_95d88_25 ?_
  refine q_iconst g (4) dJ13_bitCount_95d88_26 ?_
  refine q_lushr g dJ13_bitCount_95d88_27 ?_
  refine q_laddw g dJ13_bitCount_95d88_28 ?_
  refine q_ldc2 (w := 1085102592571150095) g 318 (1085102592571150095) (by decide +kernel) wL_J13_318 dJ13_bitCount_95d88_29 ?_
  refine q_land g dJ13_bitCount_95d88_32 ?_
  refine q_topl (r_land64 _ _) (fun x33 ex33 rx33 => ?_)
  replace h := h x33 ex33
  refine q_lstore_n (lv' := [(0, .long (i64 x33))]) g 0 0 rfl (by decide) rfl dJ13_bitCount_95d88_33 ?_
  refine q_lload_n g 0 0 rfl dJ13_bitCount_95d88_34 ?_
  refine q_lload_n g 0 0 rfl dJ13_bitCount_95d88_35 ?_
  refine q_bipush g (8) (by decide) (by decide) dJ13_bitCount_95d88_36 ?_
  refine q_lushr g dJ13_bitCount_95d88_38 ?_
  refine q_laddw g dJ13_bitCount_95d88_39 ?_
  refine q_topl (r_addw64 _ _) (fun x40 ex40 rx40 => ?_)
  replace h := h x40 ex40
  refine q_lstore_n (lv' := [(0, .long (i64 x40))]) g 0 0 rfl (by decide) rfl dJ13_bitCount_95d88_40 ?_
  refine q_lload_n g 0 0 rfl dJ13_bitCount_95d88_41 ?_
  refine q_lload_n g 0 0 rfl dJ13_bitCount_95d88_42 ?_
  refine q_bipush g (16) (by decide) (by decide) dJ13_bitCount_95d88_43 ?_
  refine q_lushr g dJ13_bitCount_95d88_45 ?_
  refine q_laddw g dJ13_bitCount_95d88_46 ?_
  refine q_topl (r_addw64 _ _) (fun x47 ex47 rx47 => ?_)
  replace h := h x47 ex47
  refine q_lstore_n (lv' := [(0, .long (i64 x47))]) g 0 0 rfl (by decide) rfl dJ13_bitCount_95d88_47 ?_
  refine q_lload_n g 0 0 rfl dJ13_bitCount_95d88_48 ?_
  refine q_lload_n g 0 0 rfl dJ13_bitCount_95d88_49 ?_
  refine q_bipush g (32) (by decide) (by decide) dJ13_bitCount_95d88_50 ?_
  refine q_lushr g dJ13_bitCount_95d88_52 ?_
  refine q_laddw g dJ13_bitCount_95d88_53 ?_
  refine q_topl (r_addw64 _ _) (fun x54 ex54 rx54 => ?_)
  replace h := h x54 ex54
  refine q_lstore_n (lv' := [(0, .long (i64 x54))]) g 0 0 rfl (by decide) rfl dJ13_bitCount_95d88_54 ?_
  refine q_lload_n g 0 0 rfl dJ13_bitCount_95d88_55 ?_
  refine q_l2iw g dJ13_bitCount_95d88_56 ?_
  refine q_bipush g (127) (by decide) (by decide) dJ13_bitCount_95d88_57 ?_
  refine q_iand g dJ13_bitCount_95d88_59 ?_
  exact q_iret g hF ⟨(land32 (l2iw x54) 127), rfl, rfl, (r_land32 _ _), h⟩ dJ13_bitCount_95d88_60
theorem dJ7_fill_53178_0 : decode cJ7_fill_53178 0 = .ok (.iconst 0, 1) := by decide +kernel
theorem dJ7_fill_53178_1 : decode cJ7_fill_53178 1 = .ok (.istore_n 2, 1) := by decide +kernel
theorem dJ7_fill_53178_2 : decode cJ7_fill_53178 2 = .ok (.aload_n 0, 1) := by decide +kernel
theorem dJ7_fill_53178_3 : decode cJ7_fill_53178 3 = .ok (.arraylength, 1) := by decide +kernel
theorem dJ7_fill_53178_4 : decode cJ7_fill_53178 4 = .ok (.istore_n 3, 1) := by decide +kernel
theorem dJ7_fill_53178_5 : decode cJ7_fill_53178 5 = .ok (.iload_n 2, 1) := by decide +kernel
theorem dJ7_fill_53178_6 : decode cJ7_fill_53178 6 = .ok (.iload_n 3, 1) := by decide +kernel
theorem dJ7_fill_53178_7 : decode cJ7_fill_53178 7 = .ok (.if_icmp .ge 13, 3) := by decide +kernel
theorem dJ7_fill_53178_10 : decode cJ7_fill_53178 10 = .ok (.aload_n 0, 1) := by decide +kernel
theorem dJ7_fill_53178_11 : decode cJ7_fill_53178 11 = .ok (.iload_n 2, 1) := by decide +kernel
theorem dJ7_fill_53178_12 : decode cJ7_fill_53178 12 = .ok (.iload_n 1, 1) := by decide +kernel
theorem dJ7_fill_53178_13 : decode cJ7_fill_53178 13 = .ok (.iastore, 1) := by decide +kernel
theorem dJ7_fill_53178_14 : decode cJ7_fill_53178 14 = .ok (.iinc 2 1, 3) := by decide +kernel
theorem dJ7_fill_53178_17 : decode cJ7_fill_53178 17 = .ok (.goto (-12), 3) := by decide +kernel
theorem dJ7_fill_53178_20 : decode cJ7_fill_53178 20 = .ok (.return_, 1) := by decide +kernel
abbrev po_J7_fill_53178 (cI cJ : ClassId) (aP0_row : Nat) (zP0 : Nat) (Q : (Int → Int) → Prop) : Option Value → va_W → Prop := fun rv w1 => ∃ (p0_row : Int → Int), rv = none ∧ w1 = [(aP0_row, aI cI zP0 p0_row)] ∧ rr32 p0_row ∧ Q p0_row
def wp_J7_fill_53178_5 (Q : (Int → Int) → Prop) (zP0 : Nat) : Nat → (Int → Int) → Int → Int → Int → Prop
  | 0, _, _, _, _ => False
  | n + 1, p0_row, l1, l2, l3 => ((l3 ≤ l2 → Q p0_row) ∧
  (¬ (l3 ≤ l2) → (0 ≤ l2 ∧ l2 < (zP0 : Int) ∧ r32 (l2 + 1) ∧ wp_J7_fill_53178_5 Q zP0 n (ups p0_row l2 l1) l1 (l2 + 1) l3)))
set_option maxHeartbeats 4000000 in
set_option maxRecDepth 100000 in
theorem s_J7_fill_53178_5 {X : Cx} (g : Gd X cJ7_fill_53178 RJ7 none 4) (hR : X.R = rmL 1 0 0) (aP0_row : Nat) (zP0 : Nat) (hzP0 : zP0 < 2147483648) (Q : (Int → Int) → Prop) (hF : FQ X 0 0 (po_J7_fill_53178 X.cI X.cJ aP0_row zP0 Q)) : ∀ (n : Nat) (p0_row : Int → Int) (l1 : Int) (l2 : Int) (l3 : Int), rr32 p0_row → r32 l1 → r32 l2 → r32 l3 → wp_J7_fill_53178_5 Q zP0 n p0_row l1 l2 l3 → Wat X 0 0 5 [(0, .ref aP0_row), (1, .int (i32 l1)), (2, .int (i32 l2)), (3, .int (i32 l3))] [] [(aP0_row, aI X.cI zP0 p0_row)] := by
  intro n
  induction n with
  | zero => intro p0_row l1 l2 l3 r_p0_row r_l1 r_l2 r_l3 h; exact False.elim h
  | succ n ih =>
    intro p0_row l1 l2 l3 r_p0_row r_l1 r_l2 r_l3 h
    rw [wp_J7_fill_53178_5] at h
    refine q_iload_n g 2 2 rfl dJ7_fill_53178_5 ?_
    refine q_iload_n g 3 3 rfl dJ7_fill_53178_6 ?_
    refine q_icmp_ge g (13) 20 r_l2 r_l3 (by decide) dJ7_fill_53178_7 (fun b7 => ?_) (fun b7 => ?_)
    · replace h := h.1 b7
      exact q_vret g hF ⟨p0_row, rfl, rfl, r_p0_row, h⟩ dJ7_fill_53178_20
    replace h := h.2 b7
    refine q_aload_n g 0 0 rfl dJ7_fill_53178_10 ?_
    refine q_iload_n g 2 2 rfl dJ7_fill_53178_11 ?_
    refine q_iload_n g 1 1 rfl dJ7_fill_53178_12 ?_
    obtain ⟨c13, h⟩ := h
    obtain ⟨e13, h⟩ := h
    refine q_iast (ws' := [(aP0_row, aI X.cI zP0 (ups p0_row l2 l1))]) g 0 rfl c13 e13 hzP0 rfl dJ7_fill_53178_13 ?_
    obtain ⟨c14, h⟩ := h
    refine q_iinc (lv' := [(2, .int (i32 (l2 + 1))), (0, .ref aP0_row), (1, .int (i32 l1)), (3, .int (i32 l3))]) g 2 2 1 (by decide) rfl rfl dJ7_fill_53178_14 ?_
    refine q_goto g (-12) 5 (by decide) dJ7_fill_53178_17 ?_
    refine q_lv (lv' := [(0, .ref aP0_row), (1, .int (i32 l1)), (2, .int (i32 (l2 + 1))), (3, .int (i32 l3))]) [1, 2, 0, 3] rfl ?_
    exact ih (ups p0_row l2 l1) l1 (l2 + 1) l3 (rr32_u r_p0_row r_l1) r_l1 c14 r_l3 h
def wp_J7_fill_53178 (Q : (Int → Int) → Prop) (zP0 : Nat) (p0_row : Int → Int) (l1 : Int) : Prop := (∀ x4 : Int, x4 = (zP0 : Int) → (∃ n0 : Nat, wp_J7_fill_53178_5 Q zP0 n0 p0_row l1 0 x4))
set_option maxHeartbeats 4000000 in
set_option maxRecDepth 100000 in
theorem c_J7_fill_53178 (l : Launch) (D : va_G) (cI cJ : ClassId) (zt : Nat) (aP0_row : Nat) (zP0 : Nat) (p0_row : Int → Int) (l1 : Int) (Q : (Int → Int) → Prop) (r_p0_row : rr32 p0_row) (r_l1 : r32 l1) (hzP0 : zP0 < 2147483648) (h : wp_J7_fill_53178 Q zP0 p0_row l1) : Ct l D cI cJ zt yJ7_fill_53178 cJ7_fill_53178 4 none 1 0 0 [.ref aP0_row, .int (i32 l1)] [(aP0_row, aI cI zP0 p0_row)] (po_J7_fill_53178 cI cJ aP0_row zP0 Q) := by
  refine ct_of (by decide +kernel) (Nat.le_of_ble_eq_true rfl) (fun X hl hDD hcI hcJ hzt hR hF hnm g => ?_)
  subst hl; subst hDD; subst hcI; subst hcJ; subst hzt
  show Wat X 0 0 0 [(0, .ref aP0_row), (1, .int (i32 l1))] [] [(aP0_row, aI X.cI zP0 p0_row)]
  replace g : Gd X cJ7_fill_53178 RJ7 none 4 := g
  rw [wp_J7_fill_53178] at h
  refine q_iconst g (0) dJ7_fill_53178_0 ?_
  refine q_istore_n (lv' := [(2, .int (i32 0)), (0, .ref aP0_row), (1, .int (i32 l1))]) g 2 2 rfl (by decide) rfl dJ7_fill_53178_1 ?_
  refine q_aload_n g 0 1 rfl dJ7_fill_53178_2 ?_
  refine q_alenI g 0 (zP0 : Int) rfl rfl dJ7_fill_53178_3 ?_
  refine q_topi (zrng hzP0) (fun x4 ex4 rx4 => ?_)
  replace h := h x4 ex4
  refine q_istore_n (lv' := [(3, .int (i32 x4)), (2, .int (i32 0)), (0, .ref aP0_row), (1, .int (i32 l1))]) g 3 3 rfl (by decide) rfl dJ7_fill_53178_4 ?_
  refine q_lv (lv' := [(0, .ref aP0_row), (1, .int (i32 l1)), (2, .int (i32 0)), (3, .int (i32 x4))]) [2, 3, 1, 0] rfl ?_
  obtain ⟨n0, h⟩ := h
  exact s_J7_fill_53178_5 g hR aP0_row zP0 hzP0 Q hF n0 p0_row l1 0 x4 r_p0_row r_l1 (r32_lit _ (by decide)) rx4 h
theorem dJ7_fill_d0a16_0 : decode cJ7_fill_d0a16 0 = .ok (.iconst 0, 1) := by decide +kernel
theorem dJ7_fill_d0a16_1 : decode cJ7_fill_d0a16 1 = .ok (.istore_n 3, 1) := by decide +kernel
theorem dJ7_fill_d0a16_2 : decode cJ7_fill_d0a16 2 = .ok (.aload_n 0, 1) := by decide +kernel
theorem dJ7_fill_d0a16_3 : decode cJ7_fill_d0a16 3 = .ok (.arraylength, 1) := by decide +kernel
theorem dJ7_fill_d0a16_4 : decode cJ7_fill_d0a16 4 = .ok (.istore 4, 2) := by decide +kernel
theorem dJ7_fill_d0a16_6 : decode cJ7_fill_d0a16 6 = .ok (.iload_n 3, 1) := by decide +kernel
theorem dJ7_fill_d0a16_7 : decode cJ7_fill_d0a16 7 = .ok (.iload 4, 2) := by decide +kernel
theorem dJ7_fill_d0a16_9 : decode cJ7_fill_d0a16 9 = .ok (.if_icmp .ge 13, 3) := by decide +kernel
theorem dJ7_fill_d0a16_12 : decode cJ7_fill_d0a16 12 = .ok (.aload_n 0, 1) := by decide +kernel
theorem dJ7_fill_d0a16_13 : decode cJ7_fill_d0a16 13 = .ok (.iload_n 3, 1) := by decide +kernel
theorem dJ7_fill_d0a16_14 : decode cJ7_fill_d0a16 14 = .ok (.lload_n 1, 1) := by decide +kernel
theorem dJ7_fill_d0a16_15 : decode cJ7_fill_d0a16 15 = .ok (.lastore, 1) := by decide +kernel
theorem dJ7_fill_d0a16_16 : decode cJ7_fill_d0a16 16 = .ok (.iinc 3 1, 3) := by decide +kernel
theorem dJ7_fill_d0a16_19 : decode cJ7_fill_d0a16 19 = .ok (.goto (-13), 3) := by decide +kernel
theorem dJ7_fill_d0a16_22 : decode cJ7_fill_d0a16 22 = .ok (.return_, 1) := by decide +kernel
abbrev po_J7_fill_d0a16 (cI cJ : ClassId) (aP0_row : Nat) (zP0 : Nat) (Q : (Int → Int) → Prop) : Option Value → va_W → Prop := fun rv w1 => ∃ (p0_row : Int → Int), rv = none ∧ w1 = [(aP0_row, aL cJ zP0 p0_row)] ∧ rr64 p0_row ∧ Q p0_row
def wp_J7_fill_d0a16_6 (Q : (Int → Int) → Prop) (zP0 : Nat) : Nat → (Int → Int) → Int → Int → Int → Prop
  | 0, _, _, _, _ => False
  | n + 1, p0_row, l1, l3, l4 => ((l4 ≤ l3 → Q p0_row) ∧
  (¬ (l4 ≤ l3) → (0 ≤ l3 ∧ l3 < (zP0 : Int) ∧ r32 (l3 + 1) ∧ wp_J7_fill_d0a16_6 Q zP0 n (ups p0_row l3 l1) l1 (l3 + 1) l4)))
set_option maxHeartbeats 4000000 in
set_option maxRecDepth 100000 in
theorem s_J7_fill_d0a16_6 {X : Cx} (g : Gd X cJ7_fill_d0a16 RJ7 none 5) (hR : X.R = rmL 1 0 0) (aP0_row : Nat) (zP0 : Nat) (hzP0 : zP0 < 2147483648) (Q : (Int → Int) → Prop) (hF : FQ X 0 0 (po_J7_fill_d0a16 X.cI X.cJ aP0_row zP0 Q)) : ∀ (n : Nat) (p0_row : Int → Int) (l1 : Int) (l3 : Int) (l4 : Int), rr64 p0_row → r64 l1 → r32 l3 → r32 l4 → wp_J7_fill_d0a16_6 Q zP0 n p0_row l1 l3 l4 → Wat X 0 0 6 [(0, .ref aP0_row), (1, .long (i64 l1)), (3, .int (i32 l3)), (4, .int (i32 l4))] [] [(aP0_row, aL X.cJ zP0 p0_row)] := by
  intro n
  induction n with
  | zero => intro p0_row l1 l3 l4 r_p0_row r_l1 r_l3 r_l4 h; exact False.elim h
  | succ n ih =>
    intro p0_row l1 l3 l4 r_p0_row r_l1 r_l3 r_l4 h
    rw [wp_J7_fill_d0a16_6] at h
    refine q_iload_n g 3 2 rfl dJ7_fill_d0a16_6 ?_
    refine q_iload g 4 3 rfl dJ7_fill_d0a16_7 ?_
    refine q_icmp_ge g (13) 22 r_l3 r_l4 (by decide) dJ7_fill_d0a16_9 (fun b9 => ?_) (fun b9 => ?_)
    · replace h := h.1 b9
      exact q_vret g hF ⟨p0_row, rfl, rfl, r_p0_row, h⟩ dJ7_fill_d0a16_22
    replace h := h.2 b9
    refine q_aload_n g 0 0 rfl dJ7_fill_d0a16_12 ?_
    refine q_iload_n g 3 2 rfl dJ7_fill_d0a16_13 ?_
    refine q_lload_n g 1 1 rfl dJ7_fill_d0a16_14 ?_
    obtain ⟨c15, h⟩ := h
    obtain ⟨e15, h⟩ := h
    refine q_last (ws' := [(aP0_row, aL X.cJ zP0 (ups p0_row l3 l1))]) g 0 rfl c15 e15 hzP0 rfl dJ7_fill_d0a16_15 ?_
    obtain ⟨c16, h⟩ := h
    refine q_iinc (lv' := [(3, .int (i32 (l3 + 1))), (0, .ref aP0_row), (1, .long (i64 l1)), (4, .int (i32 l4))]) g 3 2 1 (by decide) rfl rfl dJ7_fill_d0a16_16 ?_
    refine q_goto g (-13) 6 (by decide) dJ7_fill_d0a16_19 ?_
    refine q_lv (lv' := [(0, .ref aP0_row), (1, .long (i64 l1)), (3, .int (i32 (l3 + 1))), (4, .int (i32 l4))]) [1, 2, 0, 3] rfl ?_
    exact ih (ups p0_row l3 l1) l1 (l3 + 1) l4 (rr64_u r_p0_row r_l1) r_l1 c16 r_l4 h
def wp_J7_fill_d0a16 (Q : (Int → Int) → Prop) (zP0 : Nat) (p0_row : Int → Int) (l1 : Int) : Prop := (∀ x4 : Int, x4 = (zP0 : Int) → (∃ n0 : Nat, wp_J7_fill_d0a16_6 Q zP0 n0 p0_row l1 0 x4))
set_option maxHeartbeats 4000000 in
set_option maxRecDepth 100000 in
theorem c_J7_fill_d0a16 (l : Launch) (D : va_G) (cI cJ : ClassId) (zt : Nat) (aP0_row : Nat) (zP0 : Nat) (p0_row : Int → Int) (l1 : Int) (Q : (Int → Int) → Prop) (r_p0_row : rr64 p0_row) (r_l1 : r64 l1) (hzP0 : zP0 < 2147483648) (h : wp_J7_fill_d0a16 Q zP0 p0_row l1) : Ct l D cI cJ zt yJ7_fill_d0a16 cJ7_fill_d0a16 5 none 1 0 0 [.ref aP0_row, .long (i64 l1)] [(aP0_row, aL cJ zP0 p0_row)] (po_J7_fill_d0a16 cI cJ aP0_row zP0 Q) := by
  refine ct_of (by decide +kernel) (Nat.le_of_ble_eq_true rfl) (fun X hl hDD hcI hcJ hzt hR hF hnm g => ?_)
  subst hl; subst hDD; subst hcI; subst hcJ; subst hzt
  show Wat X 0 0 0 [(0, .ref aP0_row), (1, .long (i64 l1))] [] [(aP0_row, aL X.cJ zP0 p0_row)]
  replace g : Gd X cJ7_fill_d0a16 RJ7 none 5 := g
  rw [wp_J7_fill_d0a16] at h
  refine q_iconst g (0) dJ7_fill_d0a16_0 ?_
  refine q_istore_n (lv' := [(3, .int (i32 0)), (0, .ref aP0_row), (1, .long (i64 l1))]) g 3 3 rfl (by decide) rfl dJ7_fill_d0a16_1 ?_
  refine q_aload_n g 0 1 rfl dJ7_fill_d0a16_2 ?_
  refine q_alenL g 0 (zP0 : Int) rfl rfl dJ7_fill_d0a16_3 ?_
  refine q_topi (zrng hzP0) (fun x4 ex4 rx4 => ?_)
  replace h := h x4 ex4
  refine q_istore (lv' := [(4, .int (i32 x4)), (3, .int (i32 0)), (0, .ref aP0_row), (1, .long (i64 l1))]) g 4   (by decide) rfl dJ7_fill_d0a16_4 ?_
  refine q_lv (lv' := [(0, .ref aP0_row), (1, .long (i64 l1)), (3, .int (i32 0)), (4, .int (i32 x4))]) [2, 3, 1, 0] rfl ?_
  obtain ⟨n0, h⟩ := h
  exact s_J7_fill_d0a16_6 g hR aP0_row zP0 hzP0 Q hF n0 p0_row l1 0 x4 r_p0_row r_l1 (r32_lit _ (by decide)) rx4 h
