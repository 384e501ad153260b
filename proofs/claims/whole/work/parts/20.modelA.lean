theorem wC_X8_bits : Cond.code yX8_bits cX8_bits 4 (some .int) ∈ TT := List.mem_filter.mpr ⟨List.mem_append_right _ (List.mem_of_getElem? (i := 931) (by decide +kernel)), rfl⟩
theorem wC_X8_fault : Cond.code yX8_fault cX8_fault 5 (some .int) ∈ TT := List.mem_filter.mpr ⟨List.mem_append_right _ (List.mem_of_getElem? (i := 907) (by decide +kernel)), rfl⟩
theorem wC_X8_findDivisors : Cond.code yX8_findDivisors cX8_findDivisors 3 none ∈ TT := List.mem_filter.mpr ⟨List.mem_append_right _ (List.mem_of_getElem? (i := 951) (by decide +kernel)), rfl⟩
theorem wC_X8_findLeast : Cond.code yX8_findLeast cX8_findLeast 7 none ∈ TT := List.mem_filter.mpr ⟨List.mem_append_right _ (List.mem_of_getElem? (i := 955) (by decide +kernel)), rfl⟩
theorem wC_X8_findMultiple : Cond.code yX8_findMultiple cX8_findMultiple 4 (some .int) ∈ TT := List.mem_filter.mpr ⟨List.mem_append_right _ (List.mem_of_getElem? (i := 947) (by decide +kernel)), rfl⟩
theorem wC_X8_in : Cond.code yX8_in cX8_in 6 (some .boolean) ∈ TT := List.mem_filter.mpr ⟨List.mem_append_right _ (List.mem_of_getElem? (i := 800) (by decide +kernel)), rfl⟩
theorem wC_X8_isBetter : Cond.code yX8_isBetter cX8_isBetter 6 (some .boolean) ∈ TT := List.mem_filter.mpr ⟨List.mem_append_right _ (List.mem_of_getElem? (i := 916) (by decide +kernel)), rfl⟩
theorem wC_X8_isCut : Cond.code yX8_isCut cX8_isCut 6 (some .boolean) ∈ TT := List.mem_filter.mpr ⟨List.mem_append_right _ (List.mem_of_getElem? (i := 928) (by decide +kernel)), rfl⟩
theorem wC_X8_isPart : Cond.code yX8_isPart cX8_isPart 2 (some .boolean) ∈ TT := List.mem_filter.mpr ⟨List.mem_append_right _ (List.mem_of_getElem? (i := 885) (by decide +kernel)), rfl⟩
theorem wC_X8_isRegister : Cond.code yX8_isRegister cX8_isRegister 1 (some .boolean) ∈ TT := List.mem_filter.mpr ⟨List.mem_append_right _ (List.mem_of_getElem? (i := 796) (by decide +kernel)), rfl⟩
theorem wC_X8_put : Cond.code yX8_put cX8_put 3 none ∈ TT := List.mem_filter.mpr ⟨List.mem_append_right _ (List.mem_of_getElem? (i := 846) (by decide +kernel)), rfl⟩
theorem wC_X8_twice : Cond.code yX8_twice cX8_twice 5 (some .int) ∈ TT := List.mem_filter.mpr ⟨List.mem_append_right _ (List.mem_of_getElem? (i := 857) (by decide +kernel)), rfl⟩
theorem wC_X8_worth : Cond.code yX8_worth cX8_worth 7 (some .int) ∈ TT := List.mem_filter.mpr ⟨List.mem_append_right _ (List.mem_of_getElem? (i := 920) (by decide +kernel)), rfl⟩
theorem wF_X8_13 : Cond.fieldLink RX8 13 (TX8 1).1 (TX8 1).2.1 (TX8 1).2.2.1 ∈ TT := List.mem_filter.mpr ⟨List.mem_append_right _ (List.mem_of_getElem? (i := 718) (by decide +kernel)), rfl⟩
theorem wF_X8_157 : Cond.fieldLink RX8 157 (TX8 13).1 (TX8 13).2.1 (TX8 13).2.2.1 ∈ TT := List.mem_filter.mpr ⟨List.mem_append_right _ (List.mem_of_getElem? (i := 730) (by decide +kernel)), rfl⟩
theorem wF_X8_16 : Cond.fieldLink RX8 16 (TX8 3).1 (TX8 3).2.1 (TX8 3).2.2.1 ∈ TT := List.mem_filter.mpr ⟨List.mem_append_right _ (List.mem_of_getElem? (i := 720) (by decide +kernel)), rfl⟩
theorem wF_X8_180 : Cond.fieldLink RX8 180 (TX8 17).1 (TX8 17).2.1 (TX8 17).2.2.1 ∈ TT := List.mem_filter.mpr ⟨List.mem_append_right _ (List.mem_of_getElem? (i := 734) (by decide +kernel)), rfl⟩
theorem wF_X8_20 : Cond.fieldLink RX8 20 (TX8 5).1 (TX8 5).2.1 (TX8 5).2.2.1 ∈ TT := List.mem_filter.mpr ⟨List.mem_append_right _ (List.mem_of_getElem? (i := 722) (by decide +kernel)), rfl⟩
theorem wF_X8_24 : Cond.fieldLink RX8 24 (TX8 6).1 (TX8 6).2.1 (TX8 6).2.2.1 ∈ TT := List.mem_filter.mpr ⟨List.mem_append_right _ (List.mem_of_getElem? (i := 723) (by decide +kernel)), rfl⟩
theorem wF_X8_27 : Cond.fieldLink RX8 27 (TX8 7).1 (TX8 7).2.1 (TX8 7).2.2.1 ∈ TT := List.mem_filter.mpr ⟨List.mem_append_right _ (List.mem_of_getElem? (i := 724) (by decide +kernel)), rfl⟩
theorem wF_X8_30 : Cond.fieldLink RX8 30 (TX8 8).1 (TX8 8).2.1 (TX8 8).2.2.1 ∈ TT := List.mem_filter.mpr ⟨List.mem_append_right _ (List.mem_of_getElem? (i := 725) (by decide +kernel)), rfl⟩
theorem wF_X8_42 : Cond.fieldLink RX8 42 (TX8 14).1 (TX8 14).2.1 (TX8 14).2.2.1 ∈ TT := List.mem_filter.mpr ⟨List.mem_append_right _ (List.mem_of_getElem? (i := 731) (by decide +kernel)), rfl⟩
theorem wF_X8_45 : Cond.fieldLink RX8 45 (TX8 15).1 (TX8 15).2.1 (TX8 15).2.2.1 ∈ TT := List.mem_filter.mpr ⟨List.mem_append_right _ (List.mem_of_getElem? (i := 732) (by decide +kernel)), rfl⟩
theorem wF_X8_48 : Cond.fieldLink RX8 48 (TX8 16).1 (TX8 16).2.1 (TX8 16).2.2.1 ∈ TT := List.mem_filter.mpr ⟨List.mem_append_right _ (List.mem_of_getElem? (i := 733) (by decide +kernel)), rfl⟩
theorem wF_X8_51 : Cond.fieldLink RX8 51 (TX8 18).1 (TX8 18).2.1 (TX8 18).2.2.1 ∈ TT := List.mem_filter.mpr ⟨List.mem_append_right _ (List.mem_of_getElem? (i := 735) (by decide +kernel)), rfl⟩
theorem wF_X8_55 : Cond.fieldLink RX8 55 (TX8 19).1 (TX8 19).2.1 (TX8 19).2.2.1 ∈ TT := List.mem_filter.mpr ⟨List.mem_append_right _ (List.mem_of_getElem? (i := 736) (by decide +kernel)), rfl⟩
theorem wF_X8_7 : Cond.fieldLink RX8 7 (TX8 0).1 (TX8 0).2.1 (TX8 0).2.2.1 ∈ TT := List.mem_filter.mpr ⟨List.mem_append_right _ (List.mem_of_getElem? (i := 717) (by decide +kernel)), rfl⟩
theorem wF_X8_80 : Cond.fieldLink RX8 80 (TX8 4).1 (TX8 4).2.1 (TX8 4).2.2.1 ∈ TT := List.mem_filter.mpr ⟨List.mem_append_right _ (List.mem_of_getElem? (i := 721) (by decide +kernel)), rfl⟩
theorem wF_X8_84 : Cond.fieldLink RX8 84 (TX8 2).1 (TX8 2).2.1 (TX8 2).2.2.1 ∈ TT := List.mem_filter.mpr ⟨List.mem_append_right _ (List.mem_of_getElem? (i := 719) (by decide +kernel)), rfl⟩
theorem wI_X8_fault : Cond.instanceMethod yX8_fault ∈ TT := List.mem_filter.mpr ⟨List.mem_append_right _ (List.mem_of_getElem? (i := 905) (by decide +kernel)), rfl⟩
theorem wI_X8_findDivisors : Cond.instanceMethod yX8_findDivisors ∈ TT := List.mem_filter.mpr ⟨List.mem_append_right _ (List.mem_of_getElem? (i := 950) (by decide +kernel)), rfl⟩
theorem wI_X8_findLeast : Cond.instanceMethod yX8_findLeast ∈ TT := List.mem_filter.mpr ⟨List.mem_append_right _ (List.mem_of_getElem? (i := 954) (by decide +kernel)), rfl⟩
theorem wI_X8_findMultiple : Cond.instanceMethod yX8_findMultiple ∈ TT := List.mem_filter.mpr ⟨List.mem_append_right _ (List.mem_of_getElem? (i := 946) (by decide +kernel)), rfl⟩
theorem wI_X8_isBetter : Cond.instanceMethod yX8_isBetter ∈ TT := List.mem_filter.mpr ⟨List.mem_append_right _ (List.mem_of_getElem? (i := 915) (by decide +kernel)), rfl⟩
theorem wI_X8_isCut : Cond.instanceMethod yX8_isCut ∈ TT := List.mem_filter.mpr ⟨List.mem_append_right _ (List.mem_of_getElem? (i := 927) (by decide +kernel)), rfl⟩
theorem wI_X8_isPart : Cond.instanceMethod yX8_isPart ∈ TT := List.mem_filter.mpr ⟨List.mem_append_right _ (List.mem_of_getElem? (i := 884) (by decide +kernel)), rfl⟩
theorem wI_X8_put : Cond.instanceMethod yX8_put ∈ TT := List.mem_filter.mpr ⟨List.mem_append_right _ (List.mem_of_getElem? (i := 845) (by decide +kernel)), rfl⟩
theorem wI_X8_twice : Cond.instanceMethod yX8_twice ∈ TT := List.mem_filter.mpr ⟨List.mem_append_right _ (List.mem_of_getElem? (i := 856) (by decide +kernel)), rfl⟩
theorem wI_X8_worth : Cond.instanceMethod yX8_worth ∈ TT := List.mem_filter.mpr ⟨List.mem_append_right _ (List.mem_of_getElem? (i := 919) (by decide +kernel)), rfl⟩
theorem wL_X8_101 : Cond.constantLong RX8 101 (16) ∈ TT := List.mem_filter.mpr ⟨List.mem_append_right _ (List.mem_of_getElem? (i := 853) (by decide +kernel)), rfl⟩
theorem wL_X8_133 : Cond.constantLong RX8 133 (-1) ∈ TT := List.mem_filter.mpr ⟨List.mem_append_right _ (List.mem_of_getElem? (i := 874) (by decide +kernel)), rfl⟩
theorem wL_X8_58 : Cond.constantLong RX8 58 (7) ∈ TT := List.mem_filter.mpr ⟨List.mem_append_right _ (List.mem_of_getElem? (i := 797) (by decide +kernel)), rfl⟩
theorem wL_X8_87 : Cond.constantLong RX8 87 (1000000000000) ∈ TT := List.mem_filter.mpr ⟨List.mem_append_right _ (List.mem_of_getElem? (i := 847) (by decide +kernel)), rfl⟩
theorem wM_X8_103 : Cond.methodLink RX8 103 yX8_twice ∈ TT := List.mem_filter.mpr ⟨List.mem_append_right _ (List.mem_of_getElem? (i := 854) (by decide +kernel)), rfl⟩
theorem wM_X8_148 : Cond.methodLink RX8 148 yX8_isPart ∈ TT := List.mem_filter.mpr ⟨List.mem_append_right _ (List.mem_of_getElem? (i := 882) (by decide +kernel)), rfl⟩
theorem wM_X8_162 : Cond.methodLink RX8 162 yX8_worth ∈ TT := List.mem_filter.mpr ⟨List.mem_append_right _ (List.mem_of_getElem? (i := 917) (by decide +kernel)), rfl⟩
theorem wM_X8_166 : Cond.methodLink RX8 166 yX8_fault ∈ TT := List.mem_filter.mpr ⟨List.mem_append_right _ (List.mem_of_getElem? (i := 912) (by decide +kernel)), rfl⟩
theorem wM_X8_169 : Cond.methodLink RX8 169 yX8_isBetter ∈ TT := List.mem_filter.mpr ⟨List.mem_append_right _ (List.mem_of_getElem? (i := 913) (by decide +kernel)), rfl⟩
theorem wM_X8_173 : Cond.methodLink RX8 173 yX8_bits ∈ TT := List.mem_filter.mpr ⟨List.mem_append_right _ (List.mem_of_getElem? (i := 929) (by decide +kernel)), rfl⟩
theorem wM_X8_177 : Cond.methodLink RX8 177 yX8_isCut ∈ TT := List.mem_filter.mpr ⟨List.mem_append_right _ (List.mem_of_getElem? (i := 925) (by decide +kernel)), rfl⟩
theorem wM_X8_183 : Cond.methodLink RX8 183 yX8_findDivisors ∈ TT := List.mem_filter.mpr ⟨List.mem_append_right _ (List.mem_of_getElem? (i := 948) (by decide +kernel)), rfl⟩
theorem wM_X8_186 : Cond.methodLink RX8 186 yX8_findLeast ∈ TT := List.mem_filter.mpr ⟨List.mem_append_right _ (List.mem_of_getElem? (i := 952) (by decide +kernel)), rfl⟩
theorem wM_X8_189 : Cond.methodLink RX8 189 yX8_findMultiple ∈ TT := List.mem_filter.mpr ⟨List.mem_append_right _ (List.mem_of_getElem? (i := 944) (by decide +kernel)), rfl⟩
theorem wM_X8_60 : Cond.methodLink RX8 60 yX8_in ∈ TT := List.mem_filter.mpr ⟨List.mem_append_right _ (List.mem_of_getElem? (i := 798) (by decide +kernel)), rfl⟩
theorem wM_X8_68 : Cond.methodLink RX8 68 yX8_isRegister ∈ TT := List.mem_filter.mpr ⟨List.mem_append_right _ (List.mem_of_getElem? (i := 794) (by decide +kernel)), rfl⟩
theorem wM_X8_95 : Cond.methodLink RX8 95 yX8_put ∈ TT := List.mem_filter.mpr ⟨List.mem_append_right _ (List.mem_of_getElem? (i := 843) (by decide +kernel)), rfl⟩
theorem wS_X8_fault : Cond.selects yX8_fault.cls yX8_fault yX8_fault ∈ TT := List.mem_filter.mpr ⟨List.mem_append_right _ (List.mem_of_getElem? (i := 906) (by decide +kernel)), rfl⟩
theorem wS_X8_findDivisors : Cond.selects yX8_findDivisors.cls yX8_findDivisors yX8_findDivisors ∈ TT := List.mem_filter.mpr ⟨List.mem_append_left _ (List.mem_of_getElem? (i := 64) (by decide +kernel)), rfl⟩
theorem wS_X8_findLeast : Cond.selects yX8_findLeast.cls yX8_findLeast yX8_findLeast ∈ TT := List.mem_filter.mpr ⟨List.mem_append_left _ (List.mem_of_getElem? (i := 65) (by decide +kernel)), rfl⟩
theorem wS_X8_findMultiple : Cond.selects yX8_findMultiple.cls yX8_findMultiple yX8_findMultiple ∈ TT := List.mem_filter.mpr ⟨List.mem_append_left _ (List.mem_of_getElem? (i := 63) (by decide +kernel)), rfl⟩
theorem wS_X8_isBetter : Cond.selects yX8_isBetter.cls yX8_isBetter yX8_isBetter ∈ TT := List.mem_filter.mpr ⟨List.mem_append_left _ (List.mem_of_getElem? (i := 59) (by decide +kernel)), rfl⟩
theorem wS_X8_isCut : Cond.selects yX8_isCut.cls yX8_isCut yX8_isCut ∈ TT := List.mem_filter.mpr ⟨List.mem_append_left _ (List.mem_of_getElem? (i := 61) (by decide +kernel)), rfl⟩
theorem wS_X8_isPart : Cond.selects yX8_isPart.cls yX8_isPart yX8_isPart ∈ TT := List.mem_filter.mpr ⟨List.mem_append_left _ (List.mem_of_getElem? (i := 56) (by decide +kernel)), rfl⟩
theorem wS_X8_put : Cond.selects yX8_put.cls yX8_put yX8_put ∈ TT := List.mem_filter.mpr ⟨List.mem_append_left _ (List.mem_of_getElem? (i := 50) (by decide +kernel)), rfl⟩
theorem wS_X8_twice : Cond.selects yX8_twice.cls yX8_twice yX8_twice ∈ TT := List.mem_filter.mpr ⟨List.mem_append_left _ (List.mem_of_getElem? (i := 52) (by decide +kernel)), rfl⟩
theorem wS_X8_worth : Cond.selects yX8_worth.cls yX8_worth yX8_worth ∈ TT := List.mem_filter.mpr ⟨List.mem_append_left _ (List.mem_of_getElem? (i := 60) (by decide +kernel)), rfl⟩
theorem wT_X8_bits : Cond.static yX8_bits ∈ TT := List.mem_filter.mpr ⟨List.mem_append_right _ (List.mem_of_getElem? (i := 930) (by decide +kernel)), rfl⟩
theorem wT_X8_in : Cond.static yX8_in ∈ TT := List.mem_filter.mpr ⟨List.mem_append_right _ (List.mem_of_getElem? (i := 799) (by decide +kernel)), rfl⟩
theorem wT_X8_isRegister : Cond.static yX8_isRegister ∈ TT := List.mem_filter.mpr ⟨List.mem_append_right _ (List.mem_of_getElem? (i := 795) (by decide +kernel)), rfl⟩
theorem wZ_X8 : Cond.initialized RX8 ∈ TT := List.mem_filter.mpr ⟨List.mem_append_right _ (List.mem_of_getElem? (i := 10) (by decide +kernel)), rfl⟩
theorem dX8_in_0 : decode cX8_in 0 = .ok (.lload_n 0, 1) := by decide +kernel
theorem dX8_in_1 : decode cX8_in 1 = .ok (.lload_n 2, 1) := by decide +kernel
theorem dX8_in_2 : decode cX8_in 2 = .ok (.lcmp, 1) := by decide +kernel
theorem dX8_in_3 : decode cX8_in 3 = .ok (.ifCond .lt 14, 3) := by decide +kernel
theorem dX8_in_6 : decode cX8_in 6 = .ok (.lload_n 0, 1) := by decide +kernel
theorem dX8_in_7 : decode cX8_in 7 = .ok (.lload 4, 2) := by decide +kernel
theorem dX8_in_9 : decode cX8_in 9 = .ok (.lcmp, 1) := by decide +kernel
theorem dX8_in_10 : decode cX8_in 10 = .ok (.ifCond .gt 7, 3) := by decide +kernel
theorem dX8_in_13 : decode cX8_in 13 = .ok (.iconst 1, 1) := by decide +kernel
theorem dX8_in_14 : decode cX8_in 14 = .ok (.goto 4, 3) := by decide +kernel
theorem dX8_in_17 : decode cX8_in 17 = .ok (.iconst 0, 1) := by decide +kernel
theorem dX8_in_18 : decode cX8_in 18 = .ok (.ireturn, 1) := by decide +kernel
abbrev po_X8_in (cI cJ : ClassId) (Q : Int → Prop) : Option Value → va_W → Prop := fun rv w1 => ∃ (r0 : Int), rv = some (.int (i32 r0)) ∧ w1 = [] ∧ r32 r0 ∧ Q r0
def wp_X8_in_18 (Q : Int → Prop) (k0 : Int) : Prop := ((k0 = 0 ∨ k0 = 1) ∧ Q k0)
set_option maxHeartbeats 4000000 in
set_option maxRecDepth 100000 in
theorem s_X8_in_18 {X : Cx} (g : Gd X cX8_in RX8 (some .boolean) 6) (hR : X.R = rmL 1 0 0) (Q : Int → Prop) (hF : FQ X 0 0 (po_X8_in X.cI X.cJ Q)) : ∀ (k0 : Int), r32 k0 → wp_X8_in_18 Q k0 → Wat X 0 0 18 [] [.int (i32 k0)] [] := by
  intro k0 r_k0 h
  rw [wp_X8_in_18] at h
  obtain ⟨z18, h⟩ := h
  exact q_zret g hF z18 ⟨k0, rfl, rfl, r_k0, h⟩ dX8_in_18
def wp_X8_in_17 (Q : Int → Prop) : Prop := wp_X8_in_18 Q 0
set_option maxHeartbeats 4000000 in
set_option maxRecDepth 100000 in
theorem s_X8_in_17 {X : Cx} (g : Gd X cX8_in RX8 (some .boolean) 6) (hR : X.R = rmL 1 0 0) (Q : Int → Prop) (hF : FQ X 0 0 (po_X8_in X.cI X.cJ Q)) : wp_X8_in_17 Q → Wat X 0 0 17 [] [] [] := by
  intro h
  rw [wp_X8_in_17] at h
  refine q_iconst g (0) dX8_in_17 ?_
  exact s_X8_in_18 g hR Q hF 0 (r32_lit _ (by decide)) h
def wp_X8_in (Q : Int → Prop) (l0 : Int) (l2 : Int) (l4 : Int) : Prop := ((l0 < l2 → wp_X8_in_17 Q) ∧
  (¬ (l0 < l2) → ((l4 < l0 → wp_X8_in_17 Q) ∧
  (¬ (l4 < l0) → wp_X8_in_18 Q 1))))
set_option maxHeartbeats 4000000 in
set_option maxRecDepth 100000 in
theorem c_X8_in (l : Launch) (D : va_G) (cI cJ : ClassId) (zt : Nat) (l0 : Int) (l2 : Int) (l4 : Int) (Q : Int → Prop) (r_l0 : r64 l0) (r_l2 : r64 l2) (r_l4 : r64 l4) (h : wp_X8_in Q l0 l2 l4) : Ct l D cI cJ zt yX8_in cX8_in 6 (some .boolean) 1 0 0 [.long (i64 l0), .long (i64 l2), .long (i64 l4)] [] (po_X8_in cI cJ Q) := by
  refine ct_of (by decide +kernel) (Nat.le_of_ble_eq_true rfl) (fun X hl hDD hcI hcJ hzt hR hF hnm g => ?_)
  subst hl; subst hDD; subst hcI; subst hcJ; subst hzt
  show Wat X 0 0 0 [(0, .long (i64 l0)), (2, .long (i64 l2)), (4, .long (i64 l4))] [] []
  replace g : Gd X cX8_in RX8 (some .boolean) 6 := g
  rw [wp_X8_in] at h
  refine q_lload_n g 0 0 rfl dX8_in_0 ?_
  refine q_lload_n g 2 1 rfl dX8_in_1 ?_
  refine q_lcmp_lt g (14) 17 r_l0 r_l2 (by decide) dX8_in_2 dX8_in_3 (fun b2 => ?_) (fun b2 => ?_)
  · replace h := h.1 b2
    refine q_lv (lv' := []) [] rfl ?_
    exact s_X8_in_17 g hR Q hF h
  replace h := h.2 b2
  refine q_lload_n g 0 0 rfl dX8_in_6 ?_
  refine q_lload g 4 2 rfl dX8_in_7 ?_
  refine q_lcmp_gt g (7) 17 r_l0 r_l4 (by decide) dX8_in_9 dX8_in_10 (fun b9 => ?_) (fun b9 => ?_)
  · replace h := h.1 b9
    refine q_lv (lv' := []) [] rfl ?_
    exact s_X8_in_17 g hR Q hF h
  replace h := h.2 b9
  refine q_iconst g (1) dX8_in_13 ?_
  refine q_goto g (4) 18 (by decide) dX8_in_14 ?_
  refine q_lv (lv' := []) [] rfl ?_
  exact s_X8_in_18 g hR Q hF 1 (r32_lit _ (by decide)) h
theorem dX8_isRegister_0 : decode cX8_isRegister 0 = .ok (.iload_n 0, 1) := by decide +kernel
theorem dX8_isRegister_1 : decode cX8_isRegister 1 = .ok (.i2l, 1) := by decide +kernel
theorem dX8_isRegister_2 : decode cX8_isRegister 2 = .ok (.lconst 0, 1) := by decide +kernel
theorem dX8_isRegister_3 : decode cX8_isRegister 3 = .ok (.ldc2_w 58, 3) := by decide +kernel
theorem dX8_isRegister_6 : decode cX8_isRegister 6 = .ok (.invokestatic 60, 3) := by decide +kernel
theorem dX8_isRegister_9 : decode cX8_isRegister 9 = .ok (.ireturn, 1) := by decide +kernel
abbrev po_X8_isRegister (cI cJ : ClassId) (Q : Int → Prop) : Option Value → va_W → Prop := fun rv w1 => ∃ (r0 : Int), rv = some (.int (i32 r0)) ∧ w1 = [] ∧ r32 r0 ∧ Q r0
def wp_X8_isRegister (Q : Int → Prop) (l0 : Int) : Prop := wp_X8_in (fun (x6 : Int) => ((x6 = 0 ∨ x6 = 1) ∧ Q x6)) l0 0 7
set_option maxHeartbeats 4000000 in
set_option maxRecDepth 100000 in
theorem c_X8_isRegister (l : Launch) (D : va_G) (cI cJ : ClassId) (zt : Nat) (l0 : Int) (Q : Int → Prop) (r_l0 : r32 l0) (h : wp_X8_isRegister Q l0) : Ct l D cI cJ zt yX8_isRegister cX8_isRegister 1 (some .boolean) 2 0 0 [.int (i32 l0)] [] (po_X8_isRegister cI cJ Q) := by
  refine ct_of (by decide +kernel) (Nat.le_of_ble_eq_true rfl) (fun X hl hDD hcI hcJ hzt hR hF hnm g => ?_)
  subst hl; subst hDD; subst hcI; subst hcJ; subst hzt
  show Wat X 0 0 0 [(0, .int (i32 l0))] [] []
  replace g : Gd X cX8_isRegister RX8 (some .boolean) 1 := g
  rw [wp_X8_isRegister] at h
  refine q_iload_n g 0 0 rfl dX8_isRegister_0 ?_
  refine q_i2l g r_l0 dX8_isRegister_1 ?_
  refine q_lconst g 0 0 rfl dX8_isRegister_2 ?_
  refine q_ldc2 (w := 7) g 58 (7) (by decide +kernel) wL_X8_58 dX8_isRegister_3 ?_
  refine q_callS (lev := 1) (mc := 0) (ms := 0) (As := [.long (i64 l0), .long (i64 0), .long (i64 7)]) g 60 (c_X8_in X.l X.D X.cI X.cJ X.zt l0 0 7 _ (r32_64 r_l0) (r64_lit _ (by decide)) (r64_lit _ (by decide)) h) (wr := []) [] [] rfl rfl rfl (by decide) (by decide) (by decide) wM_X8_60 wT_X8_in wZ_X8 wC_X8_in 3 rfl (by decide +kernel) (by rw [hR]; exact ⟨by show 1 + 1 ≤ 2; omega, by show 8 + (6 + 11) + 100 * 1 ≤ 100 * 2; omega⟩) (by rw [hR]; exact ⟨Nat.le_refl _, Nat.le_refl _⟩) (Nat.le_of_ble_eq_true rfl) rfl dX8_isRegister_6 (fun rv w1 hq => ?_)
  obtain ⟨x6, rfl, rfl, rx6, h⟩ := hq
  show Wat X 0 0 9 [(0, .int (i32 l0))] [.int (i32 x6)] []
  obtain ⟨z9, h⟩ := h
  exact q_zret g hF z9 ⟨x6, rfl, rfl, rx6, h⟩ dX8_isRegister_9
theorem dX8_against_0 : decode cX8_against 0 = .ok (.iload_n 1, 1) := by decide +kernel
theorem dX8_against_1 : decode cX8_against 1 = .ok (.invokestatic 68, 3) := by decide +kernel
theorem dX8_against_4 : decode cX8_against 4 = .ok (.ifCond .eq 10, 3) := by decide +kernel
theorem dX8_against_7 : decode cX8_against 7 = .ok (.iload_n 2, 1) := by decide +kernel
theorem dX8_against_8 : decode cX8_against 8 = .ok (.invokestatic 68, 3) := by decide +kernel
theorem dX8_against_11 : decode cX8_against 11 = .ok (.ifCond .ne 5, 3) := by decide +kernel
theorem dX8_against_14 : decode cX8_against 14 = .ok (.iconst (-1), 1) := by decide +kernel
theorem dX8_against_15 : decode cX8_against 15 = .ok (.ireturn, 1) := by decide +kernel
theorem dX8_against_16 : decode cX8_against 16 = .ok (.aload_n 0, 1) := by decide +kernel
theorem dX8_against_17 : decode cX8_against 17 = .ok (.getfield 7, 3) := by decide +kernel
theorem dX8_against_20 : decode cX8_against 20 = .ok (.iload_n 1, 1) := by decide +kernel
theorem dX8_against_21 : decode cX8_against 21 = .ok (.iaload, 1) := by decide +kernel
theorem dX8_against_22 : decode cX8_against 22 = .ok (.i2l, 1) := by decide +kernel
theorem dX8_against_23 : decode cX8_against 23 = .ok (.aload_n 0, 1) := by decide +kernel
theorem dX8_against_24 : decode cX8_against 24 = .ok (.getfield 13, 3) := by decide +kernel
theorem dX8_against_27 : decode cX8_against 27 = .ok (.iload_n 2, 1) := by decide +kernel
theorem dX8_against_28 : decode cX8_against 28 = .ok (.iaload, 1) := by decide +kernel
theorem dX8_against_29 : decode cX8_against 29 = .ok (.i2l, 1) := by decide +kernel
theorem dX8_against_30 : decode cX8_against 30 = .ok (.lmul, 1) := by decide +kernel
theorem dX8_against_31 : decode cX8_against 31 = .ok (.lstore_n 3, 1) := by decide +kernel
theorem dX8_against_32 : decode cX8_against 32 = .ok (.aload_n 0, 1) := by decide +kernel
theorem dX8_against_33 : decode cX8_against 33 = .ok (.getfield 7, 3) := by decide +kernel
theorem dX8_against_36 : decode cX8_against 36 = .ok (.iload_n 2, 1) := by decide +kernel
theorem dX8_against_37 : decode cX8_against 37 = .ok (.iaload, 1) := by decide +kernel
theorem dX8_against_38 : decode cX8_against 38 = .ok (.i2l, 1) := by decide +kernel
theorem dX8_against_39 : decode cX8_against 39 = .ok (.aload_n 0, 1) := by decide +kernel
theorem dX8_against_40 : decode cX8_against 40 = .ok (.getfield 13, 3) := by decide +kernel
theorem dX8_against_43 : decode cX8_against 43 = .ok (.iload_n 1, 1) := by decide +kernel
theorem dX8_against_44 : decode cX8_against 44 = .ok (.iaload, 1) := by decide +kernel
theorem dX8_against_45 : decode cX8_against 45 = .ok (.i2l, 1) := by decide +kernel
theorem dX8_against_46 : decode cX8_against 46 = .ok (.lmul, 1) := by decide +kernel
theorem dX8_against_47 : decode cX8_against 47 = .ok (.lstore 5, 2) := by decide +kernel
theorem dX8_against_49 : decode cX8_against 49 = .ok (.lload_n 3, 1) := by decide +kernel
theorem dX8_against_50 : decode cX8_against 50 = .ok (.lload 5, 2) := by decide +kernel
theorem dX8_against_52 : decode cX8_against 52 = .ok (.lcmp, 1) := by decide +kernel
theorem dX8_against_53 : decode cX8_against 53 = .ok (.ifCond .le 7, 3) := by decide +kernel
theorem dX8_against_56 : decode cX8_against 56 = .ok (.iconst 1, 1) := by decide +kernel
theorem dX8_against_57 : decode cX8_against 57 = .ok (.goto 15, 3) := by decide +kernel
theorem dX8_against_60 : decode cX8_against 60 = .ok (.lload_n 3, 1) := by decide +kernel
theorem dX8_against_61 : decode cX8_against 61 = .ok (.lload 5, 2) := by decide +kernel
theorem dX8_against_63 : decode cX8_against 63 = .ok (.lcmp, 1) := by decide +kernel
theorem dX8_against_64 : decode cX8_against 64 = .ok (.ifCond .ne 7, 3) := by decide +kernel
theorem dX8_against_67 : decode cX8_against 67 = .ok (.iconst 0, 1) := by decide +kernel
theorem dX8_against_68 : decode cX8_against 68 = .ok (.goto 4, 3) := by decide +kernel
theorem dX8_against_71 : decode cX8_against 71 = .ok (.iconst 2, 1) := by decide +kernel
theorem dX8_against_72 : decode cX8_against 72 = .ok (.ireturn, 1) := by decide +kernel
abbrev po_X8_against (cI cJ : ClassId) (hX8 : Nat) (aX8_ups : Nat) (aX8_downs : Nat) (m_many : Int) (aX8_row : Nat) (m_isSpent : Int) (m_found : Int) (aX8_sumMany : Nat) (aX8_sumShares : Nat) (aX8_sumSet : Nat) (aX8_taken : Nat) (aX8_restUp : Nat) (aX8_restDown : Nat) (m_fewest : Int) (m_wishes : Int) (aX8_wished : Nat) (aX8_far : Nat) (aX8_queue : Nat) (m_divided : Int) (aX8_divisors : Nat) (aX8_least : Nat) (m_pairOne : Int) (m_pairTwo : Int) (m_sumUp : Int) (m_sumDown : Int) (m_ups : Int → Int) (m_downs : Int → Int) (Q : Int → Prop) : Option Value → va_W → Prop := fun rv w1 => ∃ (r0 : Int), rv = some (.int (i32 r0)) ∧ w1 = [(hX8, .inr (7, [.ref aX8_ups, .ref aX8_downs, .int (i32 m_many), .ref aX8_row, .int (i32 m_isSpent), .int (i32 m_found), .ref aX8_sumMany, .ref aX8_sumShares, .ref aX8_sumSet, .ref aX8_taken, .ref aX8_restUp, .ref aX8_restDown, .int (i32 m_fewest), .int (i32 m_wishes), .ref aX8_wished, .ref aX8_far, .ref aX8_queue, .int (i32 m_divided), .ref aX8_divisors, .ref aX8_least, .long (i64 m_pairOne), .long (i64 m_pairTwo), .long (i64 m_sumUp), .long (i64 m_sumDown)])), (aX8_ups, aI cI 8 m_ups), (aX8_downs, aI cI 8 m_downs)] ∧ r32 r0 ∧ Q r0
def wp_X8_against_14 (Q : Int → Prop) (m_ups : Int → Int) (m_downs : Int → Int) : Prop := Q (-1)
set_option maxHeartbeats 4000000 in
set_option maxRecDepth 100000 in
theorem s_X8_against_14 {X : Cx} (g : Gd X cX8_against RX8 (some .int) 7) (hR : X.R = rmL 3 0 0) (hX8 : Nat) (aX8_ups : Nat) (aX8_downs : Nat) (m_many : Int) (aX8_row : Nat) (m_isSpent : Int) (m_found : Int) (aX8_sumMany : Nat) (aX8_sumShares : Nat) (aX8_sumSet : Nat) (aX8_taken : Nat) (aX8_restUp : Nat) (aX8_restDown : Nat) (m_fewest : Int) (m_wishes : Int) (aX8_wished : Nat) (aX8_far : Nat) (aX8_queue : Nat) (m_divided : Int) (aX8_divisors : Nat) (aX8_least : Nat) (m_pairOne : Int) (m_pairTwo : Int) (m_sumUp : Int) (m_sumDown : Int) (m_ups : Int → Int) (m_downs : Int → Int) (r_m_ups : rr32 m_ups) (r_m_downs : rr32 m_downs) (Q : Int → Prop) (hF : FQ X 0 0 (po_X8_against X.cI X.cJ hX8 aX8_ups aX8_downs m_many aX8_row m_isSpent m_found aX8_sumMany aX8_sumShares aX8_sumSet aX8_taken aX8_restUp aX8_restDown m_fewest m_wishes aX8_wished aX8_far aX8_queue m_divided aX8_divisors aX8_least m_pairOne m_pairTwo m_sumUp m_sumDown m_ups m_downs Q)) : wp_X8_against_14 Q m_ups m_downs → Wat X 0 0 14 [] [] [(hX8, .inr (7, [.ref aX8_ups, .ref aX8_downs, .int (i32 m_many), .ref aX8_row, .int (i32 m_isSpent), .int (i32 m_found), .ref aX8_sumMany, .ref aX8_sumShares, .ref aX8_sumSet, .ref aX8_taken, .ref aX8_restUp, .ref aX8_restDown, .int (i32 m_fewest), .int (i32 m_wishes), .ref aX8_wished, .ref aX8_far, .ref aX8_queue, .int (i32 m_divided), .ref aX8_divisors, .ref aX8_least, .long (i64 m_pairOne), .long (i64 m_pairTwo), .long (i64 m_sumUp), .long (i64 m_sumDown)])), (aX8_ups, aI X.cI 8 m_ups), (aX8_downs, aI X.cI 8 m_downs)] := by
  intro h
  rw [wp_X8_against_14] at h
  refine q_iconst g (-1) dX8_against_14 ?_
  exact q_iret g hF ⟨(-1), rfl, rfl, (r32_lit _ (by decide)), h⟩ dX8_against_15
def wp_X8_against_72 (Q : Int → Prop) (m_ups : Int → Int) (m_downs : Int → Int) (k0 : Int) : Prop := Q k0
set_option maxHeartbeats 4000000 in
set_option maxRecDepth 100000 in
theorem s_X8_against_72 {X : Cx} (g : Gd X cX8_against RX8 (some .int) 7) (hR : X.R = rmL 3 0 0) (hX8 : Nat) (aX8_ups : Nat) (aX8_downs : Nat) (m_many : Int) (aX8_row : Nat) (m_isSpent : Int) (m_found : Int) (aX8_sumMany : Nat) (aX8_sumShares : Nat) (aX8_sumSet : Nat) (aX8_taken : Nat) (aX8_restUp : Nat) (aX8_restDown : Nat) (m_fewest : Int) (m_wishes : Int) (aX8_wished : Nat) (aX8_far : Nat) (aX8_queue : Nat) (m_divided : Int) (aX8_divisors : Nat) (aX8_least : Nat) (m_pairOne : Int) (m_pairTwo : Int) (m_sumUp : Int) (m_sumDown : Int) (m_ups : Int → Int) (m_downs : Int → Int) (r_m_ups : rr32 m_ups) (r_m_downs : rr32 m_downs) (Q : Int → Prop) (hF : FQ X 0 0 (po_X8_against X.cI X.cJ hX8 aX8_ups aX8_downs m_many aX8_row m_isSpent m_found aX8_sumMany aX8_sumShares aX8_sumSet aX8_taken aX8_restUp aX8_restDown m_fewest m_wishes aX8_wished aX8_far aX8_queue m_divided aX8_divisors aX8_least m_pairOne m_pairTwo m_sumUp m_sumDown m_ups m_downs Q)) : ∀ (k0 : Int), r32 k0 → wp_X8_against_72 Q m_ups m_downs k0 → Wat X 0 0 72 [] [.int (i32 k0)] [(hX8, .inr (7, [.ref aX8_ups, .ref aX8_downs, .int (i32 m_many), .ref aX8_row, .int (i32 m_isSpent), .int (i32 m_found), .ref aX8_sumMany, .ref aX8_sumShares, .ref aX8_sumSet, .ref aX8_taken, .ref aX8_restUp, .ref aX8_restDown, .int (i32 m_fewest), .int (i32 m_wishes), .ref aX8_wished, .ref aX8_far, .ref aX8_queue, .int (i32 m_divided), .ref aX8_divisors, .ref aX8_least, .long (i64 m_pairOne), .long (i64 m_pairTwo), .long (i64 m_sumUp), .long (i64 m_sumDown)])), (aX8_ups, aI X.cI 8 m_ups), (aX8_downs, aI X.cI 8 m_downs)] := by
  intro k0 r_k0 h
  rw [wp_X8_against_72] at h
  exact q_iret g hF ⟨k0, rfl, rfl, r_k0, h⟩ dX8_against_72
def wp_X8_against (Q : Int → Prop) (m_ups : Int → Int) (m_downs : Int → Int) (l1 : Int) (l2 : Int) : Prop := wp_X8_isRegister (fun (x1 : Int) => ((x1 = 0 → wp_X8_against_14 Q m_ups m_downs) ∧
  (¬ (x1 = 0) → wp_X8_isRegister (fun (x8 : Int) => ((¬ x8 = 0 → (0 ≤ l1 ∧ l1 < 8 ∧ 0 ≤ l2 ∧ l2 < 8 ∧ r64 ((m_ups l1) * (m_downs l2)) ∧ ∀ x31 : Int, x31 = ((m_ups l1) * (m_downs l2)) → 0 ≤ l2 ∧ l2 < 8 ∧ 0 ≤ l1 ∧ l1 < 8 ∧ r64 ((m_ups l2) * (m_downs l1)) ∧ ∀ x47 : Int, x47 = ((m_ups l2) * (m_downs l1)) → ((x31 ≤ x47 → ((¬ x31 = x47 → wp_X8_against_72 Q m_ups m_downs 2) ∧
  (x31 = x47 → wp_X8_against_72 Q m_ups m_downs 0))) ∧
  (¬ (x31 ≤ x47) → wp_X8_against_72 Q m_ups m_downs 1)))) ∧
  (x8 = 0 → wp_X8_against_14 Q m_ups m_downs))) l2))) l1
set_option maxHeartbeats 4000000 in
set_option maxRecDepth 100000 in
theorem c_X8_against (l : Launch) (D : va_G) (cI cJ : ClassId) (zt : Nat) (hX8 : Nat) (aX8_ups : Nat) (aX8_downs : Nat) (m_many : Int) (aX8_row : Nat) (m_isSpent : Int) (m_found : Int) (aX8_sumMany : Nat) (aX8_sumShares : Nat) (aX8_sumSet : Nat) (aX8_taken : Nat) (aX8_restUp : Nat) (aX8_restDown : Nat) (m_fewest : Int) (m_wishes : Int) (aX8_wished : Nat) (aX8_far : Nat) (aX8_queue : Nat) (m_divided : Int) (aX8_divisors : Nat) (aX8_least : Nat) (m_pairOne : Int) (m_pairTwo : Int) (m_sumUp : Int) (m_sumDown : Int) (m_ups : Int → Int) (m_downs : Int → Int) (l1 : Int) (l2 : Int) (Q : Int → Prop) (r_m_ups : rr32 m_ups) (r_m_downs : rr32 m_downs) (r_l1 : r32 l1) (r_l2 : r32 l2) (h : wp_X8_against Q m_ups m_downs l1 l2) : Ct l D cI cJ zt yX8_against cX8_against 7 (some .int) 3 0 0 [.ref hX8, .int (i32 l1), .int (i32 l2)] [(hX8, .inr (7, [.ref aX8_ups, .ref aX8_downs, .int (i32 m_many), .ref aX8_row, .int (i32 m_isSpent), .int (i32 m_found), .ref aX8_sumMany, .ref aX8_sumShares, .ref aX8_sumSet, .ref aX8_taken, .ref aX8_restUp, .ref aX8_restDown, .int (i32 m_fewest), .int (i32 m_wishes), .ref aX8_wished, .ref aX8_far, .ref aX8_queue, .int (i32 m_divided), .ref aX8_divisors, .ref aX8_least, .long (i64 m_pairOne), .long (i64 m_pairTwo), .long (i64 m_sumUp), .long (i64 m_sumDown)])), (aX8_ups, aI cI 8 m_ups), (aX8_downs, aI cI 8 m_downs)] (po_X8_against cI cJ hX8 aX8_ups aX8_downs m_many aX8_row m_isSpent m_found aX8_sumMany aX8_sumShares aX8_sumSet aX8_taken aX8_restUp aX8_restDown m_fewest m_wishes aX8_wished aX8_far aX8_queue m_divided aX8_divisors aX8_least m_pairOne m_pairTwo m_sumUp m_sumDown m_ups m_downs Q) := by
  refine ct_of (by decide +kernel) (Nat.le_of_ble_eq_true rfl) (fun X hl hDD hcI hcJ hzt hR hF hnm g => ?_)
  subst hl; subst hDD; subst hcI; subst hcJ; subst hzt
  show Wat X 0 0 0 [(0, .ref hX8), (1, .int (i32 l1)), (2, .int (i32 l2))] [] [(hX8, .inr (7, [.ref aX8_ups, .ref aX8_downs, .int (i32 m_many), .ref aX8_row, .int (i32 m_isSpent), .int (i32 m_found), .ref aX8_sumMany, .ref aX8_sumShares, .ref aX8_sumSet, .ref aX8_taken, .ref aX8_restUp, .ref aX8_restDown, .int (i32 m_fewest), .int (i32 m_wishes), .ref aX8_wished, .ref aX8_far, .ref aX8_queue, .int (i32 m_divided), .ref aX8_divisors, .ref aX8_least, .long (i64 m_pairOne), .long (i64 m_pairTwo), .long (i64 m_sumUp), .long (i64 m_sumDown)])), (aX8_ups, aI X.cI 8 m_ups), (aX8_downs, aI X.cI 8 m_downs)]
  replace g : Gd X cX8_against RX8 (some .int) 7 := g
  rw [wp_X8_against] at h
  refine q_iload_n g 1 1 rfl dX8_against_0 ?_
  refine q_callS (lev := 2) (mc := 0) (ms := 0) (As := [.int (i32 l1)]) g 68 (c_X8_isRegister X.l X.D X.cI X.cJ X.zt l1 _ r_l1 h) (wr := [(hX8, .inr (7, [.ref aX8_ups, .ref aX8_downs, .int (i32 m_many), .ref aX8_row, .int (i32 m_isSpent), .int (i32 m_found), .ref aX8_sumMany, .ref aX8_sumShares, .ref aX8_sumSet, .ref aX8_taken, .ref aX8_restUp, .ref aX8_restDown, .int (i32 m_fewest), .int (i32 m_wishes), .ref aX8_wished, .ref aX8_far, .ref aX8_queue, .int (i32 m_divided), .ref aX8_divisors, .ref aX8_least, .long (i64 m_pairOne), .long (i64 m_pairTwo), .long (i64 m_sumUp), .long (i64 m_sumDown)])), (aX8_ups, aI X.cI 8 m_ups), (aX8_downs, aI X.cI 8 m_downs)]) [] [0, 1, 2] rfl rfl rfl (by decide) (by decide) (by decide) wM_X8_68 wT_X8_isRegister wZ_X8 wC_X8_isRegister 1 rfl (by decide +kernel) (by rw [hR]; exact ⟨by show 2 + 1 ≤ 3; omega, by show 8 + (1 + 11) + 100 * 2 ≤ 100 * 3; omega⟩) (by rw [hR]; exact ⟨Nat.le_refl _, Nat.le_refl _⟩) (Nat.le_of_ble_eq_true rfl) rfl dX8_against_1 (fun rv w1 hq => ?_)
  obtain ⟨x1, rfl, rfl, rx1, h⟩ := hq
  show Wat X 0 0 4 [(0, .ref hX8), (1, .int (i32 l1)), (2, .int (i32 l2))] [.int (i32 x1)] [(hX8, .inr (7, [.ref aX8_ups, .ref aX8_downs, .int (i32 m_many), .ref aX8_row, .int (i32 m_isSpent), .int (i32 m_found), .ref aX8_sumMany, .ref aX8_sumShares, .ref aX8_sumSet, .ref aX8_taken, .ref aX8_restUp, .ref aX8_restDown, .int (i32 m_fewest), .int (i32 m_wishes), .ref aX8_wished, .ref aX8_far, .ref aX8_queue, .int (i32 m_divided), .ref aX8_divisors, .ref aX8_least, .long (i64 m_pairOne), .long (i64 m_pairTwo), .long (i64 m_sumUp), .long (i64 m_sumDown)])), (aX8_ups, aI X.cI 8 m_ups), (aX8_downs, aI X.cI 8 m_downs)]
  refine q_if_eq g (10) 14 rx1 (by decide) dX8_against_4 (fun b4 => ?_) (fun b4 => ?_)
  · replace h := h.1 b4
    refine q_lv (lv' := []) [] rfl ?_
    exact s_X8_against_14 g hR hX8 aX8_ups aX8_downs m_many aX8_row m_isSpent m_found aX8_sumMany aX8_sumShares aX8_sumSet aX8_taken aX8_restUp aX8_restDown m_fewest m_wishes aX8_wished aX8_far aX8_queue m_divided aX8_divisors aX8_least m_pairOne m_pairTwo m_sumUp m_sumDown m_ups m_downs r_m_ups r_m_downs Q hF h
  replace h := h.2 b4
  refine q_iload_n g 2 2 rfl dX8_against_7 ?_
  refine q_callS (lev := 2) (mc := 0) (ms := 0) (As := [.int (i32 l2)]) g 68 (c_X8_isRegister X.l X.D X.cI X.cJ X.zt l2 _ r_l2 h) (wr := [(hX8, .inr (7, [.ref aX8_ups, .ref aX8_downs, .int (i32 m_many), .ref aX8_row, .int (i32 m_isSpent), .int (i32 m_found), .ref aX8_sumMany, .ref aX8_sumShares, .ref aX8_sumSet, .ref aX8_taken, .ref aX8_restUp, .ref aX8_restDown, .int (i32 m_fewest), .int (i32 m_wishes), .ref aX8_wished, .ref aX8_far, .ref aX8_queue, .int (i32 m_divided), .ref aX8_divisors, .ref aX8_least, .long (i64 m_pairOne), .long (i64 m_pairTwo), .long (i64 m_sumUp), .long (i64 m_sumDown)])), (aX8_ups, aI X.cI 8 m_ups), (aX8_downs, aI X.cI 8 m_downs)]) [] [0, 1, 2] rfl rfl rfl (by decide) (by decide) (by decide) wM_X8_68 wT_X8_isRegister wZ_X8 wC_X8_isRegister 1 rfl (by decide +kernel) (by rw [hR]; exact ⟨by show 2 + 1 ≤ 3; omega, by show 8 + (1 + 11) + 100 * 2 ≤ 100 * 3; omega⟩) (by rw [hR]; exact ⟨Nat.le_refl _, Nat.le_refl _⟩) (Nat.le_of_ble_eq_true rfl) rfl dX8_against_8 (fun rv w1 hq => ?_)
  obtain ⟨x8, rfl, rfl, rx8, h⟩ := hq
  show Wat X 0 0 11 [(0, .ref hX8), (1, .int (i32 l1)), (2, .int (i32 l2))] [.int (i32 x8)] [(hX8, .inr (7, [.ref aX8_ups, .ref aX8_downs, .int (i32 m_many), .ref aX8_row, .int (i32 m_isSpent), .int (i32 m_found), .ref aX8_sumMany, .ref aX8_sumShares, .ref aX8_sumSet, .ref aX8_taken, .ref aX8_restUp, .ref aX8_restDown, .int (i32 m_fewest), .int (i32 m_wishes), .ref aX8_wished, .ref aX8_far, .ref aX8_queue, .int (i32 m_divided), .ref aX8_divisors, .ref aX8_least, .long (i64 m_pairOne), .long (i64 m_pairTwo), .long (i64 m_sumUp), .long (i64 m_sumDown)])), (aX8_ups, aI X.cI 8 m_ups), (aX8_downs, aI X.cI 8 m_downs)]
  refine q_if_ne g (5) 16 rx8 (by decide) dX8_against_11 (fun b11 => ?_) (fun b11 => ?_)
  · replace h := h.1 b11
    refine q_aload_n g 0 0 rfl dX8_against_16 ?_
    refine q_get (C := RX8) (T := TX8) (N := 24) g 7 inX8 0 0 rfl rfl (by decide) wF_X8_7 rfl dX8_against_17 ?_
    refine q_iload_n g 1 1 rfl dX8_against_20 ?_
    obtain ⟨c21, h⟩ := h
    obtain ⟨e21, h⟩ := h
    refine q_iald g 1 rfl c21 e21 (by decide) dX8_against_21 ?_
    refine q_i2l g (r_m_ups _) dX8_against_22 ?_
    refine q_aload_n g 0 0 rfl dX8_against_23 ?_
    refine q_get (C := RX8) (T := TX8) (N := 24) g 13 inX8 0 1 rfl rfl (by decide) wF_X8_13 rfl dX8_against_24 ?_
    refine q_iload_n g 2 2 rfl dX8_against_27 ?_
    obtain ⟨c28, h⟩ := h
    obtain ⟨e28, h⟩ := h
    refine q_iald g 2 rfl c28 e28 (by decide) dX8_against_28 ?_
    refine q_i2l g (r_m_downs _) dX8_against_29 ?_
    obtain ⟨c30, h⟩ := h
    refine q_lmul g dX8_against_30 ?_
    refine q_topl c30 (fun x31 ex31 rx31 => ?_)
    replace h := h x31 ex31
    refine q_lstore_n (lv' := [(3, .long (i64 x31)), (0, .ref hX8), (1, .int (i32 l1)), (2, .int (i32 l2))]) g 3 3 rfl (by decide) rfl dX8_against_31 ?_
    refine q_aload_n g 0 1 rfl dX8_against_32 ?_
    refine q_get (C := RX8) (T := TX8) (N := 24) g 7 inX8 0 0 rfl rfl (by decide) wF_X8_7 rfl dX8_against_33 ?_
    refine q_iload_n g 2 3 rfl dX8_against_36 ?_
    obtain ⟨c37, h⟩ := h
    obtain ⟨e37, h⟩ := h
    refine q_iald g 1 rfl c37 e37 (by decide) dX8_against_37 ?_
    refine q_i2l g (r_m_ups _) dX8_against_38 ?_
    refine q_aload_n g 0 1 rfl dX8_against_39 ?_
    refine q_get (C := RX8) (T := TX8) (N := 24) g 13 inX8 0 1 rfl rfl (by decide) wF_X8_13 rfl dX8_against_40 ?_
    refine q_iload_n g 1 2 rfl dX8_against_43 ?_
    obtain ⟨c44, h⟩ := h
    obtain ⟨e44, h⟩ := h
    refine q_iald g 2 rfl c44 e44 (by decide) dX8_against_44 ?_
    refine q_i2l g (r_m_downs _) dX8_against_45 ?_
    obtain ⟨c46, h⟩ := h
    refine q_lmul g dX8_against_46 ?_
    refine q_topl c46 (fun x47 ex47 rx47 => ?_)
    replace h := h x47 ex47
    refine q_lstore (lv' := [(5, .long (i64 x47)), (3, .long (i64 x31)), (0, .ref hX8), (1, .int (i32 l1)), (2, .int (i32 l2))]) g 5   (by decide) rfl dX8_against_47 ?_
    refine q_lload_n g 3 1 rfl dX8_against_49 ?_
    refine q_lload g 5 0 rfl dX8_against_50 ?_
    refine q_lcmp_le g (7) 60 rx31 rx47 (by decide) dX8_against_52 dX8_against_53 (fun b52 => ?_) (fun b52 => ?_)
    · replace h := h.1 b52
      refine q_lload_n g 3 1 rfl dX8_against_60 ?_
      refine q_lload g 5 0 rfl dX8_against_61 ?_
      refine q_lcmp_ne g (7) 71 rx31 rx47 (by decide) dX8_against_63 dX8_against_64 (fun b63 => ?_) (fun b63 => ?_)
      · replace h := h.1 b63
        refine q_iconst g (2) dX8_against_71 ?_
        refine q_lv (lv' := []) [] rfl ?_
        exact s_X8_against_72 g hR hX8 aX8_ups aX8_downs m_many aX8_row m_isSpent m_found aX8_sumMany aX8_sumShares aX8_sumSet aX8_taken aX8_restUp aX8_restDown m_fewest m_wishes aX8_wished aX8_far aX8_queue m_divided aX8_divisors aX8_least m_pairOne m_pairTwo m_sumUp m_sumDown m_ups m_downs r_m_ups r_m_downs Q hF 2 (r32_lit _ (by decide)) h
      replace h := h.2 b63
      refine q_iconst g (0) dX8_against_67 ?_
      refine q_goto g (4) 72 (by decide) dX8_against_68 ?_
      refine q_lv (lv' := []) [] rfl ?_
      exact s_X8_against_72 g hR hX8 aX8_ups aX8_downs m_many aX8_row m_isSpent m_found aX8_sumMany aX8_sumShares aX8_sumSet aX8_taken aX8_restUp aX8_restDown m_fewest m_wishes aX8_wished aX8_far aX8_queue m_divided aX8_divisors aX8_least m_pairOne m_pairTwo m_sumUp m_sumDown m_ups m_downs r_m_ups r_m_downs Q hF 0 (r32_lit _ (by decide)) h
    replace h := h.2 b52
    refine q_iconst g (1) dX8_against_56 ?_
    refine q_goto g (15) 72 (by decide) dX8_against_57 ?_
    refine q_lv (lv' := []) [] rfl ?_
    exact s_X8_against_72 g hR hX8 aX8_ups aX8_downs m_many aX8_row m_isSpent m_found aX8_sumMany aX8_sumShares aX8_sumSet aX8_taken aX8_restUp aX8_restDown m_fewest m_wishes aX8_wished aX8_far aX8_queue m_divided aX8_divisors aX8_least m_pairOne m_pairTwo m_sumUp m_sumDown m_ups m_downs r_m_ups r_m_downs Q hF 1 (r32_lit _ (by decide)) h
  replace h := h.2 b11
  refine q_lv (lv' := []) [] rfl ?_
  exact s_X8_against_14 g hR hX8 aX8_ups aX8_downs m_many aX8_row m_isSpent m_found aX8_sumMany aX8_sumShares aX8_sumSet aX8_taken aX8_restUp aX8_restDown m_fewest m_wishes aX8_wished aX8_far aX8_queue m_divided aX8_divisors aX8_least m_pairOne m_pairTwo m_sumUp m_sumDown m_ups m_downs r_m_ups r_m_downs Q hF h
theorem dX8_bits_0 : decode cX8_bits 0 = .ok (.iconst 0, 1) := by decide +kernel
theorem dX8_bits_1 : decode cX8_bits 1 = .ok (.istore_n 2, 1) := by decide +kernel
theorem dX8_bits_2 : decode cX8_bits 2 = .ok (.iconst 0, 1) := by decide +kernel
theorem dX8_bits_3 : decode cX8_bits 3 = .ok (.istore_n 3, 1) := by decide +kernel
theorem dX8_bits_4 : decode cX8_bits 4 = .ok (.iload_n 3, 1) := by decide +kernel
theorem dX8_bits_5 : decode cX8_bits 5 = .ok (.bipush 61, 2) := by decide +kernel
theorem dX8_bits_7 : decode cX8_bits 7 = .ok (.if_icmp .ge 18, 3) := by decide +kernel
theorem dX8_bits_10 : decode cX8_bits 10 = .ok (.iload_n 2, 1) := by decide +kernel
theorem dX8_bits_11 : decode cX8_bits 11 = .ok (.lload_n 0, 1) := by decide +kernel
theorem dX8_bits_12 : decode cX8_bits 12 = .ok (.iload_n 3, 1) := by decide +kernel
theorem dX8_bits_13 : decode cX8_bits 13 = .ok (.lshr, 1) := by decide +kernel
theorem dX8_bits_14 : decode cX8_bits 14 = .ok (.lconst 1, 1) := by decide +kernel
theorem dX8_bits_15 : decode cX8_bits 15 = .ok (.land, 1) := by decide +kernel
theorem dX8_bits_16 : decode cX8_bits 16 = .ok (.l2i, 1) := by decide +kernel
theorem dX8_bits_17 : decode cX8_bits 17 = .ok (.iadd, 1) := by decide +kernel
theorem dX8_bits_18 : decode cX8_bits 18 = .ok (.istore_n 2, 1) := by decide +kernel
theorem dX8_bits_19 : decode cX8_bits 19 = .ok (.iinc 3 1, 3) := by decide +kernel
theorem dX8_bits_22 : decode cX8_bits 22 = .ok (.goto (-18), 3) := by decide +kernel
theorem dX8_bits_25 : decode cX8_bits 25 = .ok (.iload_n 2, 1) := by decide +kernel
theorem dX8_bits_26 : decode cX8_bits 26 = .ok (.ireturn, 1) := by decide +kernel
abbrev po_X8_bits (cI cJ : ClassId) (Q : Int → Prop) : Option Value → va_W → Prop := fun rv w1 => ∃ (r0 : Int), rv = some (.int (i32 r0)) ∧ w1 = [] ∧ r32 r0 ∧ Q r0
def wp_X8_bits_4 (Q : Int → Prop) : Nat → Int → Int → Int → Prop
  | 0, _, _, _ => False
  | n + 1, l0, l2, l3 => ((61 ≤ l3 → Q l2) ∧
  (¬ (61 ≤ l3) → (r32 (land64 (shr64 l0 l3) 1) ∧ r32 (l2 + (land64 (shr64 l0 l3) 1)) ∧ ∀ x18 : Int, x18 = (l2 + (land64 (shr64 l0 l3) 1)) → r32 (l3 + 1) ∧ wp_X8_bits_4 Q n l0 x18 (l3 + 1))))
set_option maxHeartbeats 4000000 in
set_option maxRecDepth 100000 in
theorem s_X8_bits_4 {X : Cx} (g : Gd X cX8_bits RX8 (some .int) 4) (hR : X.R = rmL 1 0 0) (Q : Int → Prop) (hF : FQ X 0 0 (po_X8_bits X.cI X.cJ Q)) : ∀ (n : Nat) (l0 : Int) (l2 : Int) (l3 : Int), r64 l0 → r32 l2 → r32 l3 → wp_X8_bits_4 Q n l0 l2 l3 → Wat X 0 0 4 [(0, .long (i64 l0)), (2, .int (i32 l2)), (3, .int (i32 l3))] [] [] := by
  intro n
  induction n with
  | zero => intro l0 l2 l3 r_l0 r_l2 r_l3 h; exact False.elim h
  | succ n ih =>
    intro l0 l2 l3 r_l0 r_l2 r_l3 h
    rw [wp_X8_bits_4] at h
    refine q_iload_n g 3 2 rfl dX8_bits_4 ?_
    refine q_bipush g (61) (by decide) (by decide) dX8_bits_5 ?_
    refine q_icmp_ge g (18) 25 r_l3 (r32_lit _ (by decide)) (by decide) dX8_bits_7 (fun b7 => ?_) (fun b7 => ?_)
    · replace h := h.1 b7
      refine q_iload_n g 2 1 rfl dX8_bits_25 ?_
      exact q_iret g hF ⟨l2, rfl, rfl, r_l2, h⟩ dX8_bits_26
    replace h := h.2 b7
    refine q_iload_n g 2 1 rfl dX8_bits_10 ?_
    refine q_lload_n g 0 0 rfl dX8_bits_11 ?_
    refine q_iload_n g 3 2 rfl dX8_bits_12 ?_
    refine q_lshr g dX8_bits_13 ?_
    refine q_lconst g 1 1 rfl dX8_bits_14 ?_
    refine q_land g dX8_bits_15 ?_
    obtain ⟨c16, h⟩ := h
    refine q_l2i g dX8_bits_16 ?_
    obtain ⟨c17, h⟩ := h
    refine q_iadd g dX8_bits_17 ?_
    refine q_topi c17 (fun x18 ex18 rx18 => ?_)
    replace h := h x18 ex18
    refine q_istore_n (lv' := [(2, .int (i32 x18)), (0, .long (i64 l0)), (3, .int (i32 l3))]) g 2 2 rfl (by decide) rfl dX8_bits_18 ?_
    obtain ⟨c19, h⟩ := h
    refine q_iinc (lv' := [(3, .int (i32 (l3 + 1))), (2, .int (i32 x18)), (0, .long (i64 l0))]) g 3 2 1 (by decide) rfl rfl dX8_bits_19 ?_
    refine q_goto g (-18) 4 (by decide) dX8_bits_22 ?_
    refine q_lv (lv' := [(0, .long (i64 l0)), (2, .int (i32 x18)), (3, .int (i32 (l3 + 1)))]) [2, 1, 0] rfl ?_
    exact ih l0 x18 (l3 + 1) r_l0 rx18 c19 h
def wp_X8_bits (Q : Int → Prop) (l0 : Int) : Prop := (∃ n0 : Nat, wp_X8_bits_4 Q n0 l0 0 0)
set_option maxHeartbeats 4000000 in
set_option maxRecDepth 100000 in
theorem c_X8_bits (l : Launch) (D : va_G) (cI cJ : ClassId) (zt : Nat) (l0 : Int) (Q : Int → Prop) (r_l0 : r64 l0) (h : wp_X8_bits Q l0) : Ct l D cI cJ zt yX8_bits cX8_bits 4 (some .int) 1 0 0 [.long (i64 l0)] [] (po_X8_bits cI cJ Q) := by
  refine ct_of (by decide +kernel) (Nat.le_of_ble_eq_true rfl) (fun X hl hDD hcI hcJ hzt hR hF hnm g => ?_)
  subst hl; subst hDD; subst hcI; subst hcJ; subst hzt
  show Wat X 0 0 0 [(0, .long (i64 l0))] [] []
  replace g : Gd X cX8_bits RX8 (some .int) 4 := g
  rw [wp_X8_bits] at h
  refine q_iconst g (0) dX8_bits_0 ?_
  refine q_istore_n (lv' := [(2, .int (i32 0)), (0, .long (i64 l0))]) g 2 2 rfl (by decide) rfl dX8_bits_1 ?_
  refine q_iconst g (0) dX8_bits_2 ?_
  refine q_istore_n (lv' := [(3, .int (i32 0)), (2, .int (i32 0)), (0, .long (i64 l0))]) g 3 3 rfl (by decide) rfl dX8_bits_3 ?_
  refine q_lv (lv' := [(0, .long (i64 l0)), (2, .int (i32 0)), (3, .int (i32 0))]) [2, 1, 0] rfl ?_
  obtain ⟨n0, h⟩ := h
  exact s_X8_bits_4 g hR Q hF n0 l0 0 0 r_l0 (r32_lit _ (by decide)) (r32_lit _ (by decide)) h
theorem dX8_isCut_0 : decode cX8_isCut 0 = .ok (.aload_n 0, 1) := by decide +kernel
theorem dX8_isCut_1 : decode cX8_isCut 1 = .ok (.getfield 24, 3) := by decide +kernel
theorem dX8_isCut_4 : decode cX8_isCut 4 = .ok (.iload_n 1, 1) := by decide +kernel
theorem dX8_isCut_5 : decode cX8_isCut 5 = .ok (.iaload, 1) := by decide +kernel
theorem dX8_isCut_6 : decode cX8_isCut 6 = .ok (.aload_n 0, 1) := by decide +kernel
theorem dX8_isCut_7 : decode cX8_isCut 7 = .ok (.getfield 24, 3) := by decide +kernel
theorem dX8_isCut_10 : decode cX8_isCut 10 = .ok (.iload_n 2, 1) := by decide +kernel
theorem dX8_isCut_11 : decode cX8_isCut 11 = .ok (.iaload, 1) := by decide +kernel
theorem dX8_isCut_12 : decode cX8_isCut 12 = .ok (.isub, 1) := by decide +kernel
theorem dX8_isCut_13 : decode cX8_isCut 13 = .ok (.istore_n 3, 1) := by decide +kernel
theorem dX8_isCut_14 : decode cX8_isCut 14 = .ok (.iload_n 3, 1) := by decide +kernel
theorem dX8_isCut_15 : decode cX8_isCut 15 = .ok (.iconst 1, 1) := by decide +kernel
theorem dX8_isCut_16 : decode cX8_isCut 16 = .ok (.if_icmp .eq 10, 3) := by decide +kernel
theorem dX8_isCut_19 : decode cX8_isCut 19 = .ok (.iload_n 3, 1) := by decide +kernel
theorem dX8_isCut_20 : decode cX8_isCut 20 = .ok (.iconst (-1), 1) := by decide +kernel
theorem dX8_isCut_21 : decode cX8_isCut 21 = .ok (.if_icmp .eq 5, 3) := by decide +kernel
theorem dX8_isCut_24 : decode cX8_isCut 24 = .ok (.iconst 0, 1) := by decide +kernel
theorem dX8_isCut_25 : decode cX8_isCut 25 = .ok (.ireturn, 1) := by decide +kernel
theorem dX8_isCut_26 : decode cX8_isCut 26 = .ok (.aload_n 0, 1) := by decide +kernel
theorem dX8_isCut_27 : decode cX8_isCut 27 = .ok (.getfield 30, 3) := by decide +kernel
theorem dX8_isCut_30 : decode cX8_isCut 30 = .ok (.iload_n 1, 1) := by decide +kernel
theorem dX8_isCut_31 : decode cX8_isCut 31 = .ok (.laload, 1) := by decide +kernel
theorem dX8_isCut_32 : decode cX8_isCut 32 = .ok (.aload_n 0, 1) := by decide +kernel
theorem dX8_isCut_33 : decode cX8_isCut 33 = .ok (.getfield 30, 3) := by decide +kernel
theorem dX8_isCut_36 : decode cX8_isCut 36 = .ok (.iload_n 2, 1) := by decide +kernel
theorem dX8_isCut_37 : decode cX8_isCut 37 = .ok (.laload, 1) := by decide +kernel
theorem dX8_isCut_38 : decode cX8_isCut 38 = .ok (.ldc2_w 133, 3) := by decide +kernel
theorem dX8_isCut_41 : decode cX8_isCut 41 = .ok (.lxor, 1) := by decide +kernel
theorem dX8_isCut_42 : decode cX8_isCut 42 = .ok (.land, 1) := by decide +kernel
theorem dX8_isCut_43 : decode cX8_isCut 43 = .ok (.invokestatic 173, 3) := by decide +kernel
theorem dX8_isCut_46 : decode cX8_isCut 46 = .ok (.istore 4, 2) := by decide +kernel
theorem dX8_isCut_48 : decode cX8_isCut 48 = .ok (.aload_n 0, 1) := by decide +kernel
theorem dX8_isCut_49 : decode cX8_isCut 49 = .ok (.getfield 30, 3) := by decide +kernel
theorem dX8_isCut_52 : decode cX8_isCut 52 = .ok (.iload_n 2, 1) := by decide +kernel
theorem dX8_isCut_53 : decode cX8_isCut 53 = .ok (.laload, 1) := by decide +kernel
theorem dX8_isCut_54 : decode cX8_isCut 54 = .ok (.aload_n 0, 1) := by decide +kernel
theorem dX8_isCut_55 : decode cX8_isCut 55 = .ok (.getfield 30, 3) := by decide +kernel
theorem dX8_isCut_58 : decode cX8_isCut 58 = .ok (.iload_n 1, 1) := by decide +kernel
theorem dX8_isCut_59 : decode cX8_isCut 59 = .ok (.laload, 1) := by decide +kernel
theorem dX8_isCut_60 : decode cX8_isCut 60 = .ok (.ldc2_w 133, 3) := by decide +kernel
theorem dX8_isCut_63 : decode cX8_isCut 63 = .ok (.lxor, 1) := by decide +kernel
theorem dX8_isCut_64 : decode cX8_isCut 64 = .ok (.land, 1) := by decide +kernel
theorem dX8_isCut_65 : decode cX8_isCut 65 = .ok (.invokestatic 173, 3) := by decide +kernel
theorem dX8_isCut_68 : decode cX8_isCut 68 = .ok (.istore 5, 2) := by decide +kernel
theorem dX8_isCut_70 : decode cX8_isCut 70 = .ok (.iload 4, 2) := by decide +kernel
theorem dX8_isCut_72 : decode cX8_isCut 72 = .ok (.iconst 1, 1) := by decide +kernel
theorem dX8_isCut_73 : decode cX8_isCut 73 = .ok (.if_icmp .ne 9, 3) := by decide +kernel
theorem dX8_isCut_76 : decode cX8_isCut 76 = .ok (.iload 5, 2) := by decide +kernel
theorem dX8_isCut_78 : decode cX8_isCut 78 = .ok (.iconst 2, 1) := by decide +kernel
theorem dX8_isCut_79 : decode cX8_isCut 79 = .ok (.if_icmp .eq 15, 3) := by decide +kernel
theorem dX8_isCut_82 : decode cX8_isCut 82 = .ok (.iload 4, 2) := by decide +kernel
theorem dX8_isCut_84 : decode cX8_isCut 84 = .ok (.iconst 2, 1) := by decide +kernel
theorem dX8_isCut_85 : decode cX8_isCut 85 = .ok (.if_icmp .ne 13, 3) := by decide +kernel
theorem dX8_isCut_88 : decode cX8_isCut 88 = .ok (.iload 5, 2) := by decide +kernel
theorem dX8_isCut_90 : decode cX8_isCut 90 = .ok (.iconst 1, 1) := by decide +kernel
theorem dX8_isCut_91 : decode cX8_isCut 91 = .ok (.if_icmp .ne 7, 3) := by decide +kernel
theorem dX8_isCut_94 : decode cX8_isCut 94 = .ok (.iconst 1, 1) := by decide +kernel
theorem dX8_isCut_95 : decode cX8_isCut 95 = .ok (.goto 4, 3) := by decide +kernel
theorem dX8_isCut_98 : decode cX8_isCut 98 = .ok (.iconst 0, 1) := by decide +kernel
theorem dX8_isCut_99 : decode cX8_isCut 99 = .ok (.ireturn, 1) := by decide +kernel
abbrev po_X8_isCut (cI cJ : ClassId) (hX8 : Nat) (aX8_ups : Nat) (aX8_downs : Nat) (m_many : Int) (aX8_row : Nat) (m_isSpent : Int) (m_found : Int) (aX8_sumMany : Nat) (aX8_sumShares : Nat) (aX8_sumSet : Nat) (aX8_taken : Nat) (aX8_restUp : Nat) (aX8_restDown : Nat) (m_fewest : Int) (m_wishes : Int) (aX8_wished : Nat) (aX8_far : Nat) (aX8_queue : Nat) (m_divided : Int) (aX8_divisors : Nat) (aX8_least : Nat) (m_pairOne : Int) (m_pairTwo : Int) (m_sumUp : Int) (m_sumDown : Int) (m_sumMany : Int → Int) (m_sumSet : Int → Int) (Q : Int → Prop) : Option Value → va_W → Prop := fun rv w1 => ∃ (r0 : Int), rv = some (.int (i32 r0)) ∧ w1 = [(hX8, .inr (7, [.ref aX8_ups, .ref aX8_downs, .int (i32 m_many), .ref aX8_row, .int (i32 m_isSpent), .int (i32 m_found), .ref aX8_sumMany, .ref aX8_sumShares, .ref aX8_sumSet, .ref aX8_taken, .ref aX8_restUp, .ref aX8_restDown, .int (i32 m_fewest), .int (i32 m_wishes), .ref aX8_wished, .ref aX8_far, .ref aX8_queue, .int (i32 m_divided), .ref aX8_divisors, .ref aX8_least, .long (i64 m_pairOne), .long (i64 m_pairTwo), .long (i64 m_sumUp), .long (i64 m_sumDown)])), (aX8_sumMany, aI cI 2000 m_sumMany), (aX8_sumSet, aL cJ 2000 m_sumSet)] ∧ r32 r0 ∧ Q r0
def wp_X8_isCut_99 (Q : Int → Prop) (m_sumMany : Int → Int) (m_sumSet : Int → Int) (k0 : Int) : Prop := ((k0 = 0 ∨ k0 = 1) ∧ Q k0)
set_option maxHeartbeats 4000000 in
set_option maxRecDepth 100000 in
theorem s_X8_isCut_99 {X : Cx} (g : Gd X cX8_isCut RX8 (some .boolean) 6) (hR : X.R = rmL 2 0 0) (hX8 : Nat) (aX8_ups : Nat) (aX8_downs : Nat) (m_many : Int) (aX8_row : Nat) (m_isSpent : Int) (m_found : Int) (aX8_sumMany : Nat) (aX8_sumShares : Nat) (aX8_sumSet : Nat) (aX8_taken : Nat) (aX8_restUp : Nat) (aX8_restDown : Nat) (m_fewest : Int) (m_wishes : Int) (aX8_wished : Nat) (aX8_far : Nat) (aX8_queue : Nat) (m_divided : Int) (aX8_divisors : Nat) (aX8_least : Nat) (m_pairOne : Int) (m_pairTwo : Int) (m_sumUp : Int) (m_sumDown : Int) (m_sumMany : Int → Int) (m_sumSet : Int → Int) (r_m_sumMany : rr32 m_sumMany) (r_m_sumSet : rr64 m_sumSet) (Q : Int → Prop) (hF : FQ X 0 0 (po_X8_isCut X.cI X.cJ hX8 aX8_ups aX8_downs m_many aX8_row m_isSpent m_found aX8_sumMany aX8_sumShares aX8_sumSet aX8_taken aX8_restUp aX8_restDown m_fewest m_wishes aX8_wished aX8_far aX8_queue m_divided aX8_divisors aX8_least m_pairOne m_pairTwo m_sumUp m_sumDown m_sumMany m_sumSet Q)) : ∀ (k0 : Int), r32 k0 → wp_X8_isCut_99 Q m_sumMany m_sumSet k0 → Wat X 0 0 99 [] [.int (i32 k0)] [(hX8, .inr (7, [.ref aX8_ups, .ref aX8_downs, .int (i32 m_many), .ref aX8_row, .int (i32 m_isSpent), .int (i32 m_found), .ref aX8_sumMany, .ref aX8_sumShares, .ref aX8_sumSet, .ref aX8_taken, .ref aX8_restUp, .ref aX8_restDown, .int (i32 m_fewest), .int (i32 m_wishes), .ref aX8_wished, .ref aX8_far, .ref aX8_queue, .int (i32 m_divided), .ref aX8_divisors, .ref aX8_least, .long (i64 m_pairOne), .long (i64 m_pairTwo), .long (i64 m_sumUp), .long (i64 m_sumDown)])), (aX8_sumMany, aI X.cI 2000 m_sumMany), (aX8_sumSet, aL X.cJ 2000 m_sumSet)] := by
  intro k0 r_k0 h
  rw [wp_X8_isCut_99] at h
  obtain ⟨z99, h⟩ := h
  exact q_zret g hF z99 ⟨k0, rfl, rfl, r_k0, h⟩ dX8_isCut_99
def wp_X8_isCut_94 (Q : Int → Prop) (m_sumMany : Int → Int) (m_sumSet : Int → Int) : Prop := wp_X8_isCut_99 Q m_sumMany m_sumSet 1
set_option maxHeartbeats 4000000 in
set_option maxRecDepth 100000 in
theorem s_X8_isCut_94 {X : Cx} (g : Gd X cX8_isCut RX8 (some .boolean) 6) (hR : X.R = rmL 2 0 0) (hX8 : Nat) (aX8_ups : Nat) (aX8_downs : Nat) (m_many : Int) (aX8_row : Nat) (m_isSpent : Int) (m_found : Int) (aX8_sumMany : Nat) (aX8_sumShares : Nat) (aX8_sumSet : Nat) (aX8_taken : Nat) (aX8_restUp : Nat) (aX8_restDown : Nat) (m_fewest : Int) (m_wishes : Int) (aX8_wished : Nat) (aX8_far : Nat) (aX8_queue : Nat) (m_divided : Int) (aX8_divisors : Nat) (aX8_least : Nat) (m_pairOne : Int) (m_pairTwo : Int) (m_sumUp : Int) (m_sumDown : Int) (m_sumMany : Int → Int) (m_sumSet : Int → Int) (r_m_sumMany : rr32 m_sumMany) (r_m_sumSet : rr64 m_sumSet) (Q : Int → Prop) (hF : FQ X 0 0 (po_X8_isCut X.cI X.cJ hX8 aX8_ups aX8_downs m_many aX8_row m_isSpent m_found aX8_sumMany aX8_sumShares aX8_sumSet aX8_taken aX8_restUp aX8_restDown m_fewest m_wishes aX8_wished aX8_far aX8_queue m_divided aX8_divisors aX8_least m_pairOne m_pairTwo m_sumUp m_sumDown m_sumMany m_sumSet Q)) : wp_X8_isCut_94 Q m_sumMany m_sumSet → Wat X 0 0 94 [] [] [(hX8, .inr (7, [.ref aX8_ups, .ref aX8_downs, .int (i32 m_many), .ref aX8_row, .int (i32 m_isSpent), .int (i32 m_found), .ref aX8_sumMany, .ref aX8_sumShares, .ref aX8_sumSet, .ref aX8_taken, .ref aX8_restUp, .ref aX8_restDown, .int (i32 m_fewest), .int (i32 m_wishes), .ref aX8_wished, .ref aX8_far, .ref aX8_queue, .int (i32 m_divided), .ref aX8_divisors, .ref aX8_least, .long (i64 m_pairOne), .long (i64 m_pairTwo), .long (i64 m_sumUp), .long (i64 m_sumDown)])), (aX8_sumMany, aI X.cI 2000 m_sumMany), (aX8_sumSet, aL X.cJ 2000 m_sumSet)] := by
  intro h
  rw [wp_X8_isCut_94] at h
  refine q_iconst g (1) dX8_isCut_94 ?_
  refine q_goto g (4) 99 (by decide) dX8_isCut_95 ?_
  exact s_X8_isCut_99 g hR hX8 aX8_ups aX8_downs m_many aX8_row m_isSpent m_found aX8_sumMany aX8_sumShares aX8_sumSet aX8_taken aX8_restUp aX8_restDown m_fewest m_wishes aX8_wished aX8_far aX8_queue m_divided aX8_divisors aX8_least m_pairOne m_pairTwo m_sumUp m_sumDown m_sumMany m_sumSet r_m_sumMany r_m_sumSet Q hF 1 (r32_lit _ (by decide)) h
def wp_X8_isCut_98 (Q : Int → Prop) (m_sumMany : Int → Int) (m_sumSet : Int → Int) : Prop := wp_X8_isCut_99 Q m_sumMany m_sumSet 0
set_option maxHeartbeats 4000000 in
set_option maxRecDepth 100000 in
theorem s_X8_isCut_98 {X : Cx} (g : Gd X cX8_isCut RX8 (some .boolean) 6) (hR : X.R = rmL 2 0 0) (hX8 : Nat) (aX8_ups : Nat) (aX8_downs : Nat) (m_many : Int) (aX8_row : Nat) (m_isSpent : Int) (m_found : Int) (aX8_sumMany : Nat) (aX8_sumShares : Nat) (aX8_sumSet : Nat) (aX8_taken : Nat) (aX8_restUp : Nat) (aX8_restDown : Nat) (m_fewest : Int) (m_wishes : Int) (aX8_wished : Nat) (aX8_far : Nat) (aX8_queue : Nat) (m_divided : Int) (aX8_divisors : Nat) (aX8_least : Nat) (m_pairOne : Int) (m_pairTwo : Int) (m_sumUp : Int) (m_sumDown : Int) (m_sumMany : Int → Int) (m_sumSet : Int → Int) (r_m_sumMany : rr32 m_sumMany) (r_m_sumSet : rr64 m_sumSet) (Q : Int → Prop) (hF : FQ X 0 0 (po_X8_isCut X.cI X.cJ hX8 aX8_ups aX8_downs m_many aX8_row m_isSpent m_found aX8_sumMany aX8_sumShares aX8_sumSet aX8_taken aX8_restUp aX8_restDown m_fewest m_wishes aX8_wished aX8_far aX8_queue m_divided aX8_divisors aX8_least m_pairOne m_pairTwo m_sumUp m_sumDown m_sumMany m_sumSet Q)) : wp_X8_isCut_98 Q m_sumMany m_sumSet → Wat X 0 0 98 [] [] [(hX8, .inr (7, [.ref aX8_ups, .ref aX8_downs, .int (i32 m_many), .ref aX8_row, .int (i32 m_isSpent), .int (i32 m_found), .ref aX8_sumMany, .ref aX8_sumShares, .ref aX8_sumSet, .ref aX8_taken, .ref aX8_restUp, .ref aX8_restDown, .int (i32 m_fewest), .int (i32 m_wishes), .ref aX8_wished, .ref aX8_far, .ref aX8_queue, .int (i32 m_divided), .ref aX8_divisors, .ref aX8_least, .long (i64 m_pairOne), .long (i64 m_pairTwo), .long (i64 m_sumUp), .long (i64 m_sumDown)])), (aX8_sumMany, aI X.cI 2000 m_sumMany), (aX8_sumSet, aL X.cJ 2000 m_sumSet)] := by
  intro h
  rw [wp_X8_isCut_98] at h
  refine q_iconst g (0) dX8_isCut_98 ?_
  exact s_X8_isCut_99 g hR hX8 aX8_ups aX8_downs m_many aX8_row m_isSpent m_found aX8_sumMany aX8_sumShares aX8_sumSet aX8_taken aX8_restUp aX8_restDown m_fewest m_wishes aX8_wished aX8_far aX8_queue m_divided aX8_divisors aX8_least m_pairOne m_pairTwo m_sumUp m_sumDown m_sumMany m_sumSet r_m_sumMany r_m_sumSet Q hF 0 (r32_lit _ (by decide)) h
def wp_X8_isCut_82 (Q : Int → Prop) (m_sumMany : Int → Int) (m_sumSet : Int → Int) (l4 : Int) (l5 : Int) : Prop := ((¬ l4 = 2 → wp_X8_isCut_98 Q m_sumMany m_sumSet) ∧
  (l4 = 2 → ((¬ l5 = 1 → wp_X8_isCut_98 Q m_sumMany m_sumSet) ∧
  (l5 = 1 → wp_X8_isCut_94 Q m_sumMany m_sumSet))))
set_option maxHeartbeats 4000000 in
set_option maxRecDepth 100000 in
theorem s_X8_isCut_82 {X : Cx} (g : Gd X cX8_isCut RX8 (some .boolean) 6) (hR : X.R = rmL 2 0 0) (hX8 : Nat) (aX8_ups : Nat) (aX8_downs : Nat) (m_many : Int) (aX8_row : Nat) (m_isSpent : Int) (m_found : Int) (aX8_sumMany : Nat) (aX8_sumShares : Nat) (aX8_sumSet : Nat) (aX8_taken : Nat) (aX8_restUp : Nat) (aX8_restDown : Nat) (m_fewest : Int) (m_wishes : Int) (aX8_wished : Nat) (aX8_far : Nat) (aX8_queue : Nat) (m_divided : Int) (aX8_divisors : Nat) (aX8_least : Nat) (m_pairOne : Int) (m_pairTwo : Int) (m_sumUp : Int) (m_sumDown : Int) (m_sumMany : Int → Int) (m_sumSet : Int → Int) (r_m_sumMany : rr32 m_sumMany) (r_m_sumSet : rr64 m_sumSet) (Q : Int → Prop) (hF : FQ X 0 0 (po_X8_isCut X.cI X.cJ hX8 aX8_ups aX8_downs m_many aX8_row m_isSpent m_found aX8_sumMany aX8_sumShares aX8_sumSet aX8_taken aX8_restUp aX8_restDown m_fewest m_wishes aX8_wished aX8_far aX8_queue m_divided aX8_divisors aX8_least m_pairOne m_pairTwo m_sumUp m_sumDown m_sumMany m_sumSet Q)) : ∀ (l4 : Int) (l5 : Int), r32 l4 → r32 l5 → wp_X8_isCut_82 Q m_sumMany m_sumSet l4 l5 → Wat X 0 0 82 [(4, .int (i32 l4)), (5, .int (i32 l5))] [] [(hX8, .inr (7, [.ref aX8_ups, .ref aX8_downs, .int (i32 m_many), .ref aX8_row, .int (i32 m_isSpent), .int (i32 m_found), .ref aX8_sumMany, .ref aX8_sumShares, .ref aX8_sumSet, .ref aX8_taken, .ref aX8_restUp, .ref aX8_restDown, .int (i32 m_fewest), .int (i32 m_wishes), .ref aX8_wished, .ref aX8_far, .ref aX8_queue, .int (i32 m_divided), .ref aX8_divisors, .ref aX8_least, .long (i64 m_pairOne), .long (i64 m_pairTwo), .long (i64 m_sumUp), .long (i64 m_sumDown)])), (aX8_sumMany, aI X.cI 2000 m_sumMany), (aX8_sumSet, aL X.cJ 2000 m_sumSet)] := by
  intro l4 l5 r_l4 r_l5 h
  rw [wp_X8_isCut_82] at h
  refine q_iload g 4 0 rfl dX8_isCut_82 ?_
  refine q_iconst g (2) dX8_isCut_84 ?_
  refine q_icmp_ne g (13) 98 r_l4 (r32_lit _ (by decide)) (by decide) dX8_isCut_85 (fun b85 => ?_) (fun b85 => ?_)
  · replace h := h.1 b85
    refine q_lv (lv' := []) [] rfl ?_
    exact s_X8_isCut_98 g hR hX8 aX8_ups aX8_downs m_many aX8_row m_isSpent m_found aX8_sumMany aX8_sumShares aX8_sumSet aX8_taken aX8_restUp aX8_restDown m_fewest m_wishes aX8_wished aX8_far aX8_queue m_divided aX8_divisors aX8_least m_pairOne m_pairTwo m_sumUp m_sumDown m_sumMany m_sumSet r_m_sumMany r_m_sumSet Q hF h
  replace h := h.2 b85
  refine q_iload g 5 1 rfl dX8_isCut_88 ?_
  refine q_iconst g (1) dX8_isCut_90 ?_
  refine q_icmp_ne g (7) 98 r_l5 (r32_lit _ (by decide)) (by decide) dX8_isCut_91 (fun b91 => ?_) (fun b91 => ?_)
  · replace h := h.1 b91
    refine q_lv (lv' := []) [] rfl ?_
    exact s_X8_isCut_98 g hR hX8 aX8_ups aX8_downs m_many aX8_row m_isSpent m_found aX8_sumMany aX8_sumShares aX8_sumSet aX8_taken aX8_restUp aX8_restDown m_fewest m_wishes aX8_wished aX8_far aX8_queue m_divided aX8_divisors aX8_least m_pairOne m_pairTwo m_sumUp m_sumDown m_sumMany m_sumSet r_m_sumMany r_m_sumSet Q hF h
  replace h := h.2 b91
  refine q_lv (lv' := []) [] rfl ?_
  exact s_X8_isCut_94 g hR hX8 aX8_ups aX8_downs m_many aX8_row m_isSpent m_found aX8_sumMany aX8_sumShares aX8_sumSet aX8_taken aX8_restUp aX8_restDown m_fewest m_wishes aX8_wished aX8_far aX8_queue m_divided aX8_divisors aX8_least m_pairOne m_pairTwo m_sumUp m_sumDown m_sumMany m_sumSet r_m_sumMany r_m_sumSet Q hF h
def wp_X8_isCut_26 (Q : Int → Prop) (m_sumMany : Int → Int) (m_sumSet : Int → Int) (l1 : Int) (l2 : Int) : Prop := (0 ≤ l1 ∧ l1 < 2000 ∧ 0 ≤ l2 ∧ l2 < 2000 ∧ wp_X8_bits (fun (x43 : Int) => (0 ≤ l2 ∧ l2 < 2000 ∧ 0 ≤ l1 ∧ l1 < 2000 ∧ wp_X8_bits (fun (x65 : Int) => ((¬ x43 = 1 → wp_X8_isCut_82 Q m_sumMany m_sumSet x43 x65) ∧
  (x43 = 1 → ((x65 = 2 → wp_X8_isCut_94 Q m_sumMany m_sumSet) ∧
  (¬ (x65 = 2) → wp_X8_isCut_82 Q m_sumMany m_sumSet x43 x65))))) (land64 (m_sumSet l2) (lxor64 (m_sumSet l1) (-1))))) (land64 (m_sumSet l1) (lxor64 (m_sumSet l2) (-1))))
set_option maxHeartbeats 4000000 in
set_option maxRecDepth 100000 in
theorem s_X8_isCut_26 {X : Cx} (g : Gd X cX8_isCut RX8 (some .boolean) 6) (hR : X.R = rmL 2 0 0) (hX8 : Nat) (aX8_ups : Nat) (aX8_downs : Nat) (m_many : Int) (aX8_row : Nat) (m_isSpent : Int) (m_found : Int) (aX8_sumMany : Nat) (aX8_sumShares : Nat) (aX8_sumSet : Nat) (aX8_taken : Nat) (aX8_restUp : Nat) (aX8_restDown : Nat) (m_fewest : Int) (m_wishes : Int) (aX8_wished : Nat) (aX8_far : Nat) (aX8_queue : Nat) (m_divided : Int) (aX8_divisors : Nat) (aX8_least : Nat) (m_pairOne : Int) (m_pairTwo : Int) (m_sumUp : Int) (m_sumDown : Int) (m_sumMany : Int → Int) (m_sumSet : Int → Int) (r_m_sumMany : rr32 m_sumMany) (r_m_sumSet : rr64 m_sumSet) (Q : Int → Prop) (hF : FQ X 0 0 (po_X8_isCut X.cI X.cJ hX8 aX8_ups aX8_downs m_many aX8_row m_isSpent m_found aX8_sumMany aX8_sumShares aX8_sumSet aX8_taken aX8_restUp aX8_restDown m_fewest m_wishes aX8_wished aX8_far aX8_queue m_divided aX8_divisors aX8_least m_pairOne m_pairTwo m_sumUp m_sumDown m_sumMany m_sumSet Q)) : ∀ (l1 : Int) (l2 : Int), r32 l1 → r32 l2 → wp_X8_isCut_26 Q m_sumMany m_sumSet l1 l2 → Wat X 0 0 26 [(0, .ref hX8), (1, .int (i32 l1)), (2, .int (i32 l2))] [] [(hX8, .inr (7, [.ref aX8_ups, .ref aX8_downs, .int (i32 m_many), .ref aX8_row, .int (i32 m_isSpent), .int (i32 m_found), .ref aX8_sumMany, .ref aX8_sumShares, .ref aX8_sumSet, .ref aX8_taken, .ref aX8_restUp, .ref aX8_restDown, .int (i32 m_fewest), .int (i32 m_wishes), .ref aX8_wished, .ref aX8_far, .ref aX8_queue, .int (i32 m_divided), .ref aX8_divisors, .ref aX8_least, .long (i64 m_pairOne), .long (i64 m_pairTwo), .long (i64 m_sumUp), .long (i64 m_sumDown)])), (aX8_sumMany, aI X.cI 2000 m_sumMany), (aX8_sumSet, aL X.cJ 2000 m_sumSet)] := by
  intro l1 l2 r_l1 r_l2 h
  rw [wp_X8_isCut_26] at h
  refine q_aload_n g 0 0 rfl dX8_isCut_26 ?_
  refine q_get (C := RX8) (T := TX8) (N := 24) g 30 inX8 0 8 rfl rfl (by decide) wF_X8_30 rfl dX8_isCut_27 ?_
  refine q_iload_n g 1 1 rfl dX8_isCut_30 ?_
  obtain ⟨c31, h⟩ := h
  obtain ⟨e31, h⟩ := h
  refine q_lald g 2 rfl c31 e31 (by decide) dX8_isCut_31 ?_
  refine q_aload_n g 0 0 rfl dX8_isCut_32 ?_
  refine q_get (C := RX8) (T := TX8) (N := 24) g 30 inX8 0 8 rfl rfl (by decide) wF_X8_30 rfl dX8_isCut_33 ?_
  refine q_iload_n g 2 2 rfl dX8_isCut_36 ?_
  obtain ⟨c37, h⟩ := h
  obtain ⟨e37, h⟩ := h
  refine q_lald g 2 rfl c37 e37 (by decide) dX8_isCut_37 ?_
  refine q_ldc2 (w := (-1)) g 133 (-1) (by decide +kernel) wL_X8_133 dX8_isCut_38 ?_
  refine q_lxor g dX8_isCut_41 ?_
  refine q_land g dX8_isCut_42 ?_
  refine q_callS (lev := 1) (mc := 0) (ms := 0) (As := [.long (i64 (land64 (m_sumSet l1) (lxor64 (m_sumSet l2) (-1))))]) g 173 (c_X8_bits X.l X.D X.cI X.cJ X.zt (land64 (m_sumSet l1) (lxor64 (m_sumSet l2) (-1))) _ (r_land64 _ _) h) (wr := [(hX8, .inr (7, [.ref aX8_ups, .ref aX8_downs, .int (i32 m_many), .ref aX8_row, .int (i32 m_isSpent), .int (i32 m_found), .ref aX8_sumMany, .ref aX8_sumShares, .ref aX8_sumSet, .ref aX8_taken, .ref aX8_restUp, .ref aX8_restDown, .int (i32 m_fewest), .int (i32 m_wishes), .ref aX8_wished, .ref aX8_far, .ref aX8_queue, .int (i32 m_divided), .ref aX8_divisors, .ref aX8_least, .long (i64 m_pairOne), .long (i64 m_pairTwo), .long (i64 m_sumUp), .long (i64 m_sumDown)])), (aX8_sumMany, aI X.cI 2000 m_sumMany), (aX8_sumSet, aL X.cJ 2000 m_sumSet)]) [] [0, 1, 2] rfl rfl rfl (by decide) (by decide) (by decide) wM_X8_173 wT_X8_bits wZ_X8 wC_X8_bits 1 rfl (by decide +kernel) (by rw [hR]; exact ⟨by show 1 + 1 ≤ 2; omega, by show 8 + (4 + 11) + 100 * 1 ≤ 100 * 2; omega⟩) (by rw [hR]; exact ⟨Nat.le_refl _, Nat.le_refl _⟩) (Nat.le_of_ble_eq_true rfl) rfl dX8_isCut_43 (fun rv w1 hq => ?_)
  obtain ⟨x43, rfl, rfl, rx43, h⟩ := hq
  show Wat X 0 0 46 [(0, .ref hX8), (1, .int (i32 l1)), (2, .int (i32 l2))] [.int (i32 x43)] [(hX8, .inr (7, [.ref aX8_ups, .ref aX8_downs, .int (i32 m_many), .ref aX8_row, .int (i32 m_isSpent), .int (i32 m_found), .ref aX8_sumMany, .ref aX8_sumShares, .ref aX8_sumSet, .ref aX8_taken, .ref aX8_restUp, .ref aX8_restDown, .int (i32 m_fewest), .int (i32 m_wishes), .ref aX8_wished, .ref aX8_far, .ref aX8_queue, .int (i32 m_divided), .ref aX8_divisors, .ref aX8_least, .long (i64 m_pairOne), .long (i64 m_pairTwo), .long (i64 m_sumUp), .long (i64 m_sumDown)])), (aX8_sumMany, aI X.cI 2000 m_sumMany), (aX8_sumSet, aL X.cJ 2000 m_sumSet)]
  refine q_istore (lv' := [(4, .int (i32 x43)), (0, .ref hX8), (1, .int (i32 l1)), (2, .int (i32 l2))]) g 4   (by decide) rfl dX8_isCut_46 ?_
  refine q_aload_n g 0 1 rfl dX8_isCut_48 ?_
  refine q_get (C := RX8) (T := TX8) (N := 24) g 30 inX8 0 8 rfl rfl (by decide) wF_X8_30 rfl dX8_isCut_49 ?_
  refine q_iload_n g 2 3 rfl dX8_isCut_52 ?_
  obtain ⟨c53, h⟩ := h
  obtain ⟨e53, h⟩ := h
  refine q_lald g 2 rfl c53 e53 (by decide) dX8_isCut_53 ?_
  refine q_aload_n g 0 1 rfl dX8_isCut_54 ?_
  refine q_get (C := RX8) (T := TX8) (N := 24) g 30 inX8 0 8 rfl rfl (by decide) wF_X8_30 rfl dX8_isCut_55 ?_
  refine q_iload_n g 1 2 rfl dX8_isCut_58 ?_
  obtain ⟨c59, h⟩ := h
  obtain ⟨e59, h⟩ := h
  refine q_lald g 2 rfl c59 e59 (by decide) dX8_isCut_59 ?_
  refine q_ldc2 (w := (-1)) g 133 (-1) (by decide +kernel) wL_X8_133 dX8_isCut_60 ?_
  refine q_lxor g dX8_isCut_63 ?_
  refine q_land g dX8_isCut_64 ?_
  refine q_callS (lev := 1) (mc := 0) (ms := 0) (As := [.long (i64 (land64 (m_sumSet l2) (lxor64 (m_sumSet l1) (-1))))]) g 173 (c_X8_bits X.l X.D X.cI X.cJ X.zt (land64 (m_sumSet l2) (lxor64 (m_sumSet l1) (-1))) _ (r_land64 _ _) h) (wr := [(hX8, .inr (7, [.ref aX8_ups, .ref aX8_downs, .int (i32 m_many), .ref aX8_row, .int (i32 m_isSpent), .int (i32 m_found), .ref aX8_sumMany, .ref aX8_sumShares, .ref aX8_sumSet, .ref aX8_taken, .ref aX8_restUp, .ref aX8_restDown, .int (i32 m_fewest), .int (i32 m_wishes), .ref aX8_wished, .ref aX8_far, .ref aX8_queue, .int (i32 m_divided), .ref aX8_divisors, .ref aX8_least, .long (i64 m_pairOne), .long (i64 m_pairTwo), .long (i64 m_sumUp), .long (i64 m_sumDown)])), (aX8_sumMany, aI X.cI 2000 m_sumMany), (aX8_sumSet, aL X.cJ 2000 m_sumSet)]) [] [0, 1, 2] rfl rfl rfl (by decide) (by decide) (by decide) wM_X8_173 wT_X8_bits wZ_X8 wC_X8_bits 1 rfl (by decide +kernel) (by rw [hR]; exact ⟨by show 1 + 1 ≤ 2; omega, by show 8 + (4 + 11) + 100 * 1 ≤ 100 * 2; omega⟩) (by rw [hR]; exact ⟨Nat.le_refl _, Nat.le_refl _⟩) (Nat.le_of_ble_eq_true rfl) rfl dX8_isCut_65 (fun rv w1 hq => ?_)
  obtain ⟨x65, rfl, rfl, rx65, h⟩ := hq
  show Wat X 0 0 68 [(4, .int (i32 x43)), (0, .ref hX8), (1, .int (i32 l1)), (2, .int (i32 l2))] [.int (i32 x65)] [(hX8, .inr (7, [.ref aX8_ups, .ref aX8_downs, .int (i32 m_many), .ref aX8_row, .int (i32 m_isSpent), .int (i32 m_found), .ref aX8_sumMany, .ref aX8_sumShares, .ref aX8_sumSet, .ref aX8_taken, .ref aX8_restUp, .ref aX8_restDown, .int (i32 m_fewest), .int (i32 m_wishes), .ref aX8_wished, .ref aX8_far, .ref aX8_queue, .int (i32 m_divided), .ref aX8_divisors, .ref aX8_least, .long (i64 m_pairOne), .long (i64 m_pairTwo), .long (i64 m_sumUp), .long (i64 m_sumDown)])), (aX8_sumMany, aI X.cI 2000 m_sumMany), (aX8_sumSet, aL X.cJ 2000 m_sumSet)]
  refine q_istore (lv' := [(5, .int (i32 x65)), (4, .int (i32 x43)), (0, .ref hX8), (1, .int (i32 l1)), (2, .int (i32 l2))]) g 5   (by decide) rfl dX8_isCut_68 ?_
  refine q_iload g 4 1 rfl dX8_isCut_70 ?_
  refine q_iconst g (1) dX8_isCut_72 ?_
  refine q_icmp_ne g (9) 82 rx43 (r32_lit _ (by decide)) (by decide) dX8_isCut_73 (fun b73 => ?_) (fun b73 => ?_)
  · replace h := h.1 b73
    refine q_lv (lv' := [(4, .int (i32 x43)), (5, .int (i32 x65))]) [1, 0] rfl ?_
    exact s_X8_isCut_82 g hR hX8 aX8_ups aX8_downs m_many aX8_row m_isSpent m_found aX8_sumMany aX8_sumShares aX8_sumSet aX8_taken aX8_restUp aX8_restDown m_fewest m_wishes aX8_wished aX8_far aX8_queue m_divided aX8_divisors aX8_least m_pairOne m_pairTwo m_sumUp m_sumDown m_sumMany m_sumSet r_m_sumMany r_m_sumSet Q hF x43 x65 rx43 rx65 h
  replace h := h.2 b73
  refine q_iload g 5 0 rfl dX8_isCut_76 ?_
  refine q_iconst g (2) dX8_isCut_78 ?_
  refine q_icmp_eq g (15) 94 rx65 (r32_lit _ (by decide)) (by decide) dX8_isCut_79 (fun b79 => ?_) (fun b79 => ?_)
  · replace h := h.1 b79
    refine q_lv (lv' := []) [] rfl ?_
    exact s_X8_isCut_94 g hR hX8 aX8_ups aX8_downs m_many aX8_row m_isSpent m_found aX8_sumMany aX8_sumShares aX8_sumSet aX8_taken aX8_restUp aX8_restDown m_fewest m_wishes aX8_wished aX8_far aX8_queue m_divided aX8_divisors aX8_least m_pairOne m_pairTwo m_sumUp m_sumDown m_sumMany m_sumSet r_m_sumMany r_m_sumSet Q hF h
  replace h := h.2 b79
  refine q_lv (lv' := [(4, .int (i32 x43)), (5, .int (i32 x65))]) [1, 0] rfl ?_
  exact s_X8_isCut_82 g hR hX8 aX8_ups aX8_downs m_many aX8_row m_isSpent m_found aX8_sumMany aX8_sumShares aX8_sumSet aX8_taken aX8_restUp aX8_restDown m_fewest m_wishes aX8_wished aX8_far aX8_queue m_divided aX8_divisors aX8_least m_pairOne m_pairTwo m_sumUp m_sumDown m_sumMany m_sumSet r_m_sumMany r_m_sumSet Q hF x43 x65 rx43 rx65 h
def wp_X8_isCut (Q : Int → Prop) (m_sumMany : Int → Int) (m_sumSet : Int → Int) (l1 : Int) (l2 : Int) : Prop := (0 ≤ l1 ∧ l1 < 2000 ∧ 0 ≤ l2 ∧ l2 < 2000 ∧ r32 ((m_sumMany l1) - (m_sumMany l2)) ∧ ∀ x13 : Int, x13 = ((m_sumMany l1) - (m_sumMany l2)) → ((x13 = 1 → wp_X8_isCut_26 Q m_sumMany m_sumSet l1 l2) ∧
  (¬ (x13 = 1) → ((x13 = (-1) → wp_X8_isCut_26 Q m_sumMany m_sumSet l1 l2) ∧
  (¬ (x13 = (-1)) → Q 0)))))
set_option maxHeartbeats 4000000 in
set_option maxRecDepth 100000 in
theorem c_X8_isCut (l : Launch) (D : va_G) (cI cJ : ClassId) (zt : Nat) (hX8 : Nat) (aX8_ups : Nat) (aX8_downs : Nat) (m_many : Int) (aX8_row : Nat) (m_isSpent : Int) (m_found : Int) (aX8_sumMany : Nat) (aX8_sumShares : Nat) (aX8_sumSet : Nat) (aX8_taken : Nat) (aX8_restUp : Nat) (aX8_restDown : Nat) (m_fewest : Int) (m_wishes : Int) (aX8_wished : Nat) (aX8_far : Nat) (aX8_queue : Nat) (m_divided : Int) (aX8_divisors : Nat) (aX8_least : Nat) (m_pairOne : Int) (m_pairTwo : Int) (m_sumUp : Int) (m_sumDown : Int) (m_sumMany : Int → Int) (m_sumSet : Int → Int) (l1 : Int) (l2 : Int) (Q : Int → Prop) (r_m_sumMany : rr32 m_sumMany) (r_m_sumSet : rr64 m_sumSet) (r_l1 : r32 l1) (r_l2 : r32 l2) (h : wp_X8_isCut Q m_sumMany m_sumSet l1 l2) : Ct l D cI cJ zt yX8_isCut cX8_isCut 6 (some .boolean) 2 0 0 [.ref hX8, .int (i32 l1), .int (i32 l2)] [(hX8, .inr (7, [.ref aX8_ups, .ref aX8_downs, .int (i32 m_many), .ref aX8_row, .int (i32 m_isSpent), .int (i32 m_found), .ref aX8_sumMany, .ref aX8_sumShares, .ref aX8_sumSet, .ref aX8_taken, .ref aX8_restUp, .ref aX8_restDown, .int (i32 m_fewest), .int (i32 m_wishes), .ref aX8_wished, .ref aX8_far, .ref aX8_queue, .int (i32 m_divided), .ref aX8_divisors, .ref aX8_least, .long (i64 m_pairOne), .long (i64 m_pairTwo), .long (i64 m_sumUp), .long (i64 m_sumDown)])), (aX8_sumMany, aI cI 2000 m_sumMany), (aX8_sumSet, aL cJ 2000 m_sumSet)] (po_X8_isCut cI cJ hX8 aX8_ups aX8_downs m_many aX8_row m_isSpent m_found aX8_sumMany aX8_sumShares aX8_sumSet aX8_taken aX8_restUp aX8_restDown m_fewest m_wishes aX8_wished aX8_far aX8_queue m_divided aX8_divisors aX8_least m_pairOne m_pairTwo m_sumUp m_sumDown m_sumMany m_sumSet Q) := by
  refine ct_of (by decide +kernel) (Nat.le_of_ble_eq_true rfl) (fun X hl hDD hcI hcJ hzt hR hF hnm g => ?_)
  subst hl; subst hDD; subst hcI; subst hcJ; subst hzt
  show Wat X 0 0 0 [(0, .ref hX8), (1, .int (i32 l1)), (2, .int (i32 l2))] [] [(hX8, .inr (7, [.ref aX8_ups, .ref aX8_downs, .int (i32 m_many), .ref aX8_row, .int (i32 m_isSpent), .int (i32 m_found), .ref aX8_sumMany, .ref aX8_sumShares, .ref aX8_sumSet, .ref aX8_taken, .ref aX8_restUp, .ref aX8_restDown, .int (i32 m_fewest), .int (i32 m_wishes), .ref aX8_wished, .ref aX8_far, .ref aX8_queue, .int (i32 m_divided), .ref aX8_divisors, .ref aX8_least, .long (i64 m_pairOne), .long (i64 m_pairTwo), .long (i64 m_sumUp), .long (i64 m_sumDown)])), (aX8_sumMany, aI X.cI 2000 m_sumMany), (aX8_sumSet, aL X.cJ 2000 m_sumSet)]
  replace g : Gd X cX8_isCut RX8 (some .boolean) 6 := g
  rw [wp_X8_isCut] at h
  refine q_aload_n g 0 0 rfl dX8_isCut_0 ?_
  refine q_get (C := RX8) (T := TX8) (N := 24) g 24 inX8 0 6 rfl rfl (by decide) wF_X8_24 rfl dX8_isCut_1 ?_
  refine q_iload_n g 1 1 rfl dX8_isCut_4 ?_
  obtain ⟨c5, h⟩ := h
  obtain ⟨e5, h⟩ := h
  refine q_iald g 1 rfl c5 e5 (by decide) dX8_isCut_5 ?_
  refine q_aload_n g 0 0 rfl dX8_isCut_6 ?_
  refine q_get (C := RX8) (T := TX8) (N := 24) g 24 inX8 0 6 rfl rfl (by decide) wF_X8_24 rfl dX8_isCut_7 ?_
  refine q_iload_n g 2 2 rfl dX8_isCut_10 ?_
  obtain ⟨c11, h⟩ := h
  obtain ⟨e11, h⟩ := h
  refine q_iald g 1 rfl c11 e11 (by decide) dX8_isCut_11 ?_
  obtain ⟨c12, h⟩ := h
  refine q_isub g dX8_isCut_12 ?_
  refine q_topi c12 (fun x13 ex13 rx13 => ?_)
  replace h := h x13 ex13
  refine q_istore_n (lv' := [(3, .int (i32 x13)), (0, .ref hX8), (1, .int (i32 l1)), (2, .int (i32 l2))]) g 3 3 rfl (by decide) rfl dX8_isCut_13 ?_
  refine q_iload_n g 3 0 rfl dX8_isCut_14 ?_
  refine q_iconst g (1) dX8_isCut_15 ?_
  refine q_icmp_eq g (10) 26 rx13 (r32_lit _ (by decide)) (by decide) dX8_isCut_16 (fun b16 => ?_) (fun b16 => ?_)
  · replace h := h.1 b16
    refine q_lv (lv' := [(0, .ref hX8), (1, .int (i32 l1)), (2, .int (i32 l2))]) [1, 2, 3] rfl ?_
    exact s_X8_isCut_26 g hR hX8 aX8_ups aX8_downs m_many aX8_row m_isSpent m_found aX8_sumMany aX8_sumShares aX8_sumSet aX8_taken aX8_restUp aX8_restDown m_fewest m_wishes aX8_wished aX8_far aX8_queue m_divided aX8_divisors aX8_least m_pairOne m_pairTwo m_sumUp m_sumDown m_sumMany m_sumSet r_m_sumMany r_m_sumSet Q hF l1 l2 r_l1 r_l2 h
  replace h := h.2 b16
  refine q_iload_n g 3 0 rfl dX8_isCut_19 ?_
  refine q_iconst g (-1) dX8_isCut_20 ?_
  refine q_icmp_eq g (5) 26 rx13 (r32_lit _ (by decide)) (by decide) dX8_isCut_21 (fun b21 => ?_) (fun b21 => ?_)
  · replace h := h.1 b21
    refine q_lv (lv' := [(0, .ref hX8), (1, .int (i32 l1)), (2, .int (i32 l2))]) [1, 2, 3] rfl ?_
    exact s_X8_isCut_26 g hR hX8 aX8_ups aX8_downs m_many aX8_row m_isSpent m_found aX8_sumMany aX8_sumShares aX8_sumSet aX8_taken aX8_restUp aX8_restDown m_fewest m_wishes aX8_wished aX8_far aX8_queue m_divided aX8_divisors aX8_least m_pairOne m_pairTwo m_sumUp m_sumDown m_sumMany m_sumSet r_m_sumMany r_m_sumSet Q hF l1 l2 r_l1 r_l2 h
  replace h := h.2 b21
  refine q_iconst g (0) dX8_isCut_24 ?_
  exact q_zret g hF (by decide) ⟨0, rfl, rfl, (r32_lit _ (by decide)), h⟩ dX8_isCut_25
theorem dX8_beside_0 : decode cX8_beside 0 = .ok (.iload_n 1, 1) := by decide +kernel
theorem dX8_beside_1 : decode cX8_beside 1 = .ok (.ifCond .ge 5, 3) := by decide +kernel
theorem dX8_beside_4 : decode cX8_beside 4 = .ok (.iconst (-1), 1) := by decide +kernel
theorem dX8_beside_5 : decode cX8_beside 5 = .ok (.ireturn, 1) := by decide +kernel
theorem dX8_beside_6 : decode cX8_beside 6 = .ok (.aload_n 0, 1) := by decide +kernel
theorem dX8_beside_7 : decode cX8_beside 7 = .ok (.getfield 20, 3) := by decide +kernel
theorem dX8_beside_10 : decode cX8_beside 10 = .ok (.ifCond .lt 11, 3) := by decide +kernel
theorem dX8_beside_13 : decode cX8_beside 13 = .ok (.iload_n 1, 1) := by decide +kernel
theorem dX8_beside_14 : decode cX8_beside 14 = .ok (.aload_n 0, 1) := by decide +kernel
theorem dX8_beside_15 : decode cX8_beside 15 = .ok (.getfield 20, 3) := by decide +kernel
theorem dX8_beside_18 : decode cX8_beside 18 = .ok (.if_icmp .lt 6, 3) := by decide +kernel
theorem dX8_beside_21 : decode cX8_beside 21 = .ok (.bipush (-2), 2) := by decide +kernel
theorem dX8_beside_23 : decode cX8_beside 23 = .ok (.ireturn, 1) := by decide +kernel
theorem dX8_beside_24 : decode cX8_beside 24 = .ok (.iconst 0, 1) := by decide +kernel
theorem dX8_beside_25 : decode cX8_beside 25 = .ok (.istore_n 2, 1) := by decide +kernel
theorem dX8_beside_26 : decode cX8_beside 26 = .ok (.iconst 0, 1) := by decide +kernel
theorem dX8_beside_27 : decode cX8_beside 27 = .ok (.istore_n 3, 1) := by decide +kernel
theorem dX8_beside_28 : decode cX8_beside 28 = .ok (.iload_n 3, 1) := by decide +kernel
theorem dX8_beside_29 : decode cX8_beside 29 = .ok (.aload_n 0, 1) := by decide +kernel
theorem dX8_beside_30 : decode cX8_beside 30 = .ok (.getfield 20, 3) := by decide +kernel
theorem dX8_beside_33 : decode cX8_beside 33 = .ok (.if_icmp .ge 26, 3) := by decide +kernel
theorem dX8_beside_36 : decode cX8_beside 36 = .ok (.iload_n 2, 1) := by decide +kernel
theorem dX8_beside_37 : decode cX8_beside 37 = .ok (.aload_n 0, 1) := by decide +kernel
theorem dX8_beside_38 : decode cX8_beside 38 = .ok (.iload_n 1, 1) := by decide +kernel
theorem dX8_beside_39 : decode cX8_beside 39 = .ok (.iload_n 3, 1) := by decide +kernel
theorem dX8_beside_40 : decode cX8_beside 40 = .ok (.invokevirtual 177, 3) := by decide +kernel
theorem dX8_beside_43 : decode cX8_beside 43 = .ok (.ifCond .eq 7, 3) := by decide +kernel
theorem dX8_beside_46 : decode cX8_beside 46 = .ok (.iconst 1, 1) := by decide +kernel
theorem dX8_beside_47 : decode cX8_beside 47 = .ok (.goto 4, 3) := by decide +kernel
theorem dX8_beside_50 : decode cX8_beside 50 = .ok (.iconst 0, 1) := by decide +kernel
theorem dX8_beside_51 : decode cX8_beside 51 = .ok (.iadd, 1) := by decide +kernel
theorem dX8_beside_52 : decode cX8_beside 52 = .ok (.istore_n 2, 1) := by decide +kernel
theorem dX8_beside_53 : decode cX8_beside 53 = .ok (.iinc 3 1, 3) := by decide +kernel
theorem dX8_beside_56 : decode cX8_beside 56 = .ok (.goto (-28), 3) := by decide +kernel
theorem dX8_beside_59 : decode cX8_beside 59 = .ok (.iload_n 2, 1) := by decide +kernel
theorem dX8_beside_60 : decode cX8_beside 60 = .ok (.ireturn, 1) := by decide +kernel
abbrev po_X8_beside (cI cJ : ClassId) (hX8 : Nat) (aX8_ups : Nat) (aX8_downs : Nat) (m_many : Int) (aX8_row : Nat) (m_isSpent : Int) (m_found : Int) (aX8_sumMany : Nat) (aX8_sumShares : Nat) (aX8_sumSet : Nat) (aX8_taken : Nat) (aX8_restUp : Nat) (aX8_restDown : Nat) (m_fewest : Int) (m_wishes : Int) (aX8_wished : Nat) (aX8_far : Nat) (aX8_queue : Nat) (m_divided : Int) (aX8_divisors : Nat) (aX8_least : Nat) (m_pairOne : Int) (m_pairTwo : Int) (m_sumUp : Int) (m_sumDown : Int) (m_sumMany : Int → Int) (m_sumSet : Int → Int) (Q : Int → Prop) : Option Value → va_W → Prop := fun rv w1 => ∃ (r0 : Int), rv = some (.int (i32 r0)) ∧ w1 = [(hX8, .inr (7, [.ref aX8_ups, .ref aX8_downs, .int (i32 m_many), .ref aX8_row, .int (i32 m_isSpent), .int (i32 m_found), .ref aX8_sumMany, .ref aX8_sumShares, .ref aX8_sumSet, .ref aX8_taken, .ref aX8_restUp, .ref aX8_restDown, .int (i32 m_fewest), .int (i32 m_wishes), .ref aX8_wished, .ref aX8_far, .ref aX8_queue, .int (i32 m_divided), .ref aX8_divisors, .ref aX8_least, .long (i64 m_pairOne), .long (i64 m_pairTwo), .long (i64 m_sumUp), .long (i64 m_sumDown)])), (aX8_sumMany, aI cI 2000 m_sumMany), (aX8_sumSet, aL cJ 2000 m_sumSet)] ∧ r32 r0 ∧ Q r0
def wp_X8_beside_21 (Q : Int → Prop) (m_found : Int) (m_sumMany : Int → Int) (m_sumSet : Int → Int) : Prop := Q (-2)
set_option maxHeartbeats 4000000 in
set_option maxRecDepth 100000 in
theorem s_X8_beside_21 {X : Cx} (g : Gd X cX8_beside RX8 (some .int) 4) (hR : X.R = rmL 3 0 0) (hX8 : Nat) (aX8_ups : Nat) (aX8_downs : Nat) (m_many : Int) (aX8_row : Nat) (m_isSpent : Int) (aX8_sumMany : Nat) (aX8_sumShares : Nat) (aX8_sumSet : Nat) (aX8_taken : Nat) (aX8_restUp : Nat) (aX8_restDown : Nat) (m_fewest : Int) (m_wishes : Int) (aX8_wished : Nat) (aX8_far : Nat) (aX8_queue : Nat) (m_divided : Int) (aX8_divisors : Nat) (aX8_least : Nat) (m_pairOne : Int) (m_pairTwo : Int) (m_sumUp : Int) (m_sumDown : Int) (m_found : Int) (m_sumMany : Int → Int) (m_sumSet : Int → Int) (r_m_found : r32 m_found) (r_m_sumMany : rr32 m_sumMany) (r_m_sumSet : rr64 m_sumSet) (Q : Int → Prop) (hF : FQ X 0 0 (po_X8_beside X.cI X.cJ hX8 aX8_ups aX8_downs m_many aX8_row m_isSpent m_found aX8_sumMany aX8_sumShares aX8_sumSet aX8_taken aX8_restUp aX8_restDown m_fewest m_wishes aX8_wished aX8_far aX8_queue m_divided aX8_divisors aX8_least m_pairOne m_pairTwo m_sumUp m_sumDown m_sumMany m_sumSet Q)) : wp_X8_beside_21 Q m_found m_sumMany m_sumSet → Wat X 0 0 21 [] [] [(hX8, .inr (7, [.ref aX8_ups, .ref aX8_downs, .int (i32 m_many), .ref aX8_row, .int (i32 m_isSpent), .int (i32 m_found), .ref aX8_sumMany, .ref aX8_sumShares, .ref aX8_sumSet, .ref aX8_taken, .ref aX8_restUp, .ref aX8_restDown, .int (i32 m_fewest), .int (i32 m_wishes), .ref aX8_wished, .ref aX8_far, .ref aX8_queue, .int (i32 m_divided), .ref aX8_divisors, .ref aX8_least, .long (i64 m_pairOne), .long (i64 m_pairTwo), .long (i64 m_sumUp), .long (i64 m_sumDown)])), (aX8_sumMany, aI X.cI 2000 m_sumMany), (aX8_sumSet, aL X.cJ 2000 m_sumSet)] := by
  intro h
  rw [wp_X8_beside_21] at h
  refine q_bipush g (-2) (by decide) (by decide) dX8_beside_21 ?_
  exact q_iret g hF ⟨(-2), rfl, rfl, (r32_lit _ (by decide)), h⟩ dX8_beside_23
def wp_X8_beside_51 (Q : Int → Prop) (m_found : Int) (m_sumMany : Int → Int) (m_sumSet : Int → Int) (K_28 : Int → Int → Int → Prop) (l1 : Int) (l3 : Int) (k0 : Int) (k1 : Int) : Prop := (r32 (k0 + k1) ∧ ∀ x52 : Int, x52 = (k0 + k1) → r32 (l3 + 1) ∧ K_28 l1 x52 (l3 + 1))
set_option maxHeartbeats 4000000 in
set_option maxRecDepth 100000 in
theorem s_X8_beside_51 {X : Cx} (g : Gd X cX8_beside RX8 (some .int) 4) (hR : X.R = rmL 3 0 0) (hX8 : Nat) (aX8_ups : Nat) (aX8_downs : Nat) (m_many : Int) (aX8_row : Nat) (m_isSpent : Int) (aX8_sumMany : Nat) (aX8_sumShares : Nat) (aX8_sumSet : Nat) (aX8_taken : Nat) (aX8_restUp : Nat) (aX8_restDown : Nat) (m_fewest : Int) (m_wishes : Int) (aX8_wished : Nat) (aX8_far : Nat) (aX8_queue : Nat) (m_divided : Int) (aX8_divisors : Nat) (aX8_least : Nat) (m_pairOne : Int) (m_pairTwo : Int) (m_sumUp : Int) (m_sumDown : Int) (m_found : Int) (m_sumMany : Int → Int) (m_sumSet : Int → Int) (r_m_found : r32 m_found) (r_m_sumMany : rr32 m_sumMany) (r_m_sumSet : rr64 m_sumSet) (Q : Int → Prop) (hF : FQ X 0 0 (po_X8_beside X.cI X.cJ hX8 aX8_ups aX8_downs m_many aX8_row m_isSpent m_found aX8_sumMany aX8_sumShares aX8_sumSet aX8_taken aX8_restUp aX8_restDown m_fewest m_wishes aX8_wished aX8_far aX8_queue m_divided aX8_divisors aX8_least m_pairOne m_pairTwo m_sumUp m_sumDown m_sumMany m_sumSet Q)) (K_28 : Int → Int → Int → Prop) (hK_28 : ∀ (l1 : Int) (l2 : Int) (l3 : Int), r32 l1 → r32 l2 → r32 l3 → K_28 l1 l2 l3 → Wat X 0 0 28 [(0, .ref hX8), (1, .int (i32 l1)), (2, .int (i32 l2)), (3, .int (i32 l3))] [] [(hX8, .inr (7, [.ref aX8_ups, .ref aX8_downs, .int (i32 m_many), .ref aX8_row, .int (i32 m_isSpent), .int (i32 m_found), .ref aX8_sumMany, .ref aX8_sumShares, .ref aX8_sumSet, .ref aX8_taken, .ref aX8_restUp, .ref aX8_restDown, .int (i32 m_fewest), .int (i32 m_wishes), .ref aX8_wished, .ref aX8_far, .ref aX8_queue, .int (i32 m_divided), .ref aX8_divisors, .ref aX8_least, .long (i64 m_pairOne), .long (i64 m_pairTwo), .long (i64 m_sumUp), .long (i64 m_sumDown)])), (aX8_sumMany, aI X.cI 2000 m_sumMany), (aX8_sumSet, aL X.cJ 2000 m_sumSet)]) : ∀ (l1 : Int) (l3 : Int) (k0 : Int) (k1 : Int), r32 l1 → r32 l3 → r32 k0 → r32 k1 → wp_X8_beside_51 Q m_found m_sumMany m_sumSet K_28 l1 l3 k0 k1 → Wat X 0 0 51 [(0, .ref hX8), (1, .int (i32 l1)), (3, .int (i32 l3))] [.int (i32 k1), .int (i32 k0)] [(hX8, .inr (7, [.ref aX8_ups, .ref aX8_downs, .int (i32 m_many), .ref aX8_row, .int (i32 m_isSpent), .int (i32 m_found), .ref aX8_sumMany, .ref aX8_sumShares, .ref aX8_sumSet, .ref aX8_taken, .ref aX8_restUp, .ref aX8_restDown, .int (i32 m_fewest), .int (i32 m_wishes), .ref aX8_wished, .ref aX8_far, .ref aX8_queue, .int (i32 m_divided), .ref aX8_divisors, .ref aX8_least, .long (i64 m_pairOne), .long (i64 m_pairTwo), .long (i64 m_sumUp), .long (i64 m_sumDown)])), (aX8_sumMany, aI X.cI 2000 m_sumMany), (aX8_sumSet, aL X.cJ 2000 m_sumSet)] := by
  intro l1 l3 k0 k1 r_l1 r_l3 r_k0 r_k1 h
  rw [wp_X8_beside_51] at h
  obtain ⟨c51, h⟩ := h
  refine q_iadd g dX8_beside_51 ?_
  refine q_topi c51 (fun x52 ex52 rx52 => ?_)
  replace h := h x52 ex52
  refine q_istore_n (lv' := [(2, .int (i32 x52)), (0, .ref hX8), (1, .int (i32 l1)), (3, .int (i32 l3))]) g 2 2 rfl (by decide) rfl dX8_beside_52 ?_
  obtain ⟨c53, h⟩ := h
  refine q_iinc (lv' := [(3, .int (i32 (l3 + 1))), (2, .int (i32 x52)), (0, .ref hX8), (1, .int (i32 l1))]) g 3 3 1 (by decide) rfl rfl dX8_beside_53 ?_
  refine q_goto g (-28) 28 (by decide) dX8_beside_56 ?_
  refine q_lv (lv' := [(0, .ref hX8), (1, .int (i32 l1)), (2, .int (i32 x52)), (3, .int (i32 (l3 + 1)))]) [2, 3, 1, 0] rfl ?_
  exact hK_28 l1 x52 (l3 + 1) r_l1 rx52 c53 h
def wp_X8_beside_28 (Q : Int → Prop) (m_found : Int) (m_sumMany : Int → Int) (m_sumSet : Int → Int) : Nat → Int → Int → Int → Prop
  | 0, _, _, _ => False
  | n + 1, l1, l2, l3 => ((m_found ≤ l3 → Q l2) ∧
  (¬ (m_found ≤ l3) → wp_X8_isCut (fun (x40 : Int) => ((x40 = 0 → wp_X8_beside_51 Q m_found m_sumMany m_sumSet (wp_X8_beside_28 Q m_found m_sumMany m_sumSet n) l1 l3 l2 0) ∧
  (¬ (x40 = 0) → wp_X8_beside_51 Q m_found m_sumMany m_sumSet (wp_X8_beside_28 Q m_found m_sumMany m_sumSet n) l1 l3 l2 1))) m_sumMany m_sumSet l1 l3))
set_option maxHeartbeats 4000000 in
set_option maxRecDepth 100000 in
theorem s_X8_beside_28 {X : Cx} (g : Gd X cX8_beside RX8 (some .int) 4) (hR : X.R = rmL 3 0 0) (hX8 : Nat) (aX8_ups : Nat) (aX8_downs : Nat) (m_many : Int) (aX8_row : Nat) (m_isSpent : Int) (aX8_sumMany : Nat) (aX8_sumShares : Nat) (aX8_sumSet : Nat) (aX8_taken : Nat) (aX8_restUp : Nat) (aX8_restDown : Nat) (m_fewest : Int) (m_wishes : Int) (aX8_wished : Nat) (aX8_far : Nat) (aX8_queue : Nat) (m_divided : Int) (aX8_divisors : Nat) (aX8_least : Nat) (m_pairOne : Int) (m_pairTwo : Int) (m_sumUp : Int) (m_sumDown : Int) (m_found : Int) (m_sumMany : Int → Int) (m_sumSet : Int → Int) (r_m_found : r32 m_found) (r_m_sumMany : rr32 m_sumMany) (r_m_sumSet : rr64 m_sumSet) (Q : Int → Prop) (hF : FQ X 0 0 (po_X8_beside X.cI X.cJ hX8 aX8_ups aX8_downs m_many aX8_row m_isSpent m_found aX8_sumMany aX8_sumShares aX8_sumSet aX8_taken aX8_restUp aX8_restDown m_fewest m_wishes aX8_wished aX8_far aX8_queue m_divided aX8_divisors aX8_least m_pairOne m_pairTwo m_sumUp m_sumDown m_sumMany m_sumSet Q)) : ∀ (n : Nat) (l1 : Int) (l2 : Int) (l3 : Int), r32 l1 → r32 l2 → r32 l3 → wp_X8_beside_28 Q m_found m_sumMany m_sumSet n l1 l2 l3 → Wat X 0 0 28 [(0, .ref hX8), (1, .int (i32 l1)), (2, .int (i32 l2)), (3, .int (i32 l3))] [] [(hX8, .inr (7, [.ref aX8_ups, .ref aX8_downs, .int (i32 m_many), .ref aX8_row, .int (i32 m_isSpent), .int (i32 m_found), .ref aX8_sumMany, .ref aX8_sumShares, .ref aX8_sumSet, .ref aX8_taken, .ref aX8_restUp, .ref aX8_restDown, .int (i32 m_fewest), .int (i32 m_wishes), .ref aX8_wished, .ref aX8_far, .ref aX8_queue, .int (i32 m_divided), .ref aX8_divisors, .ref aX8_least, .long (i64 m_pairOne), .long (i64 m_pairTwo), .long (i64 m_sumUp), .long (i64 m_sumDown)])), (aX8_sumMany, aI X.cI 2000 m_sumMany), (aX8_sumSet, aL X.cJ 2000 m_sumSet)] := by
  intro n
  induction n with
  | zero => intro l1 l2 l3 r_l1 r_l2 r_l3 h; exact False.elim h
  | succ n ih =>
    intro l1 l2 l3 r_l1 r_l2 r_l3 h
    rw [wp_X8_beside_28] at h
    refine q_iload_n g 3 3 rfl dX8_beside_28 ?_
    refine q_aload_n g 0 0 rfl dX8_beside_29 ?_
    refine q_get (C := RX8) (T := TX8) (N := 24) g 20 inX8 0 5 rfl rfl (by decide) wF_X8_20 rfl dX8_beside_30 ?_
    refine q_icmp_ge g (26) 59 r_l3 r_m_found (by decide) dX8_beside_33 (fun b33 => ?_) (fun b33 => ?_)
    · replace h := h.1 b33
      refine q_iload_n g 2 2 rfl dX8_beside_59 ?_
      exact q_iret g hF ⟨l2, rfl, rfl, r_l2, h⟩ dX8_beside_60
    replace h := h.2 b33
    refine q_iload_n g 2 2 rfl dX8_beside_36 ?_
    refine q_aload_n g 0 0 rfl dX8_beside_37 ?_
    refine q_iload_n g 1 1 rfl dX8_beside_38 ?_
    refine q_iload_n g 3 3 rfl dX8_beside_39 ?_
    refine q_callV (lev := 2) (mc := 0) (ms := 0) g 177 (c_X8_isCut X.l X.D X.cI X.cJ X.zt hX8 aX8_ups aX8_downs m_many aX8_row m_isSpent m_found aX8_sumMany aX8_sumShares aX8_sumSet aX8_taken aX8_restUp aX8_restDown m_fewest m_wishes aX8_wished aX8_far aX8_queue m_divided aX8_divisors aX8_least m_pairOne m_pairTwo m_sumUp m_sumDown m_sumMany m_sumSet l1 l3 _ r_m_sumMany r_m_sumSet r_l1 r_l3 h) (wr := []) [0, 1, 2] [] rfl rfl rfl (by decide) (by decide) (by decide) (ci := 7) rfl rfl rfl wM_X8_177 wI_X8_isCut wS_X8_isCut wZ_X8 wC_X8_isCut 2 rfl (by decide +kernel) (by rw [hR]; exact ⟨by show 2 + 1 ≤ 3; omega, by show 8 + (6 + 11) + 100 * 2 ≤ 100 * 3; omega⟩) (by rw [hR]; exact ⟨Nat.le_refl _, Nat.le_refl _⟩) (Nat.le_of_ble_eq_true rfl) rfl dX8_beside_40 (fun rv w1 hq => ?_)
    obtain ⟨x40, rfl, rfl, rx40, h⟩ := hq
    show Wat X 0 0 43 [(0, .ref hX8), (1, .int (i32 l1)), (2, .int (i32 l2)), (3, .int (i32 l3))] [.int (i32 x40), .int (i32 l2)] [(hX8, .inr (7, [.ref aX8_ups, .ref aX8_downs, .int (i32 m_many), .ref aX8_row, .int (i32 m_isSpent), .int (i32 m_found), .ref aX8_sumMany, .ref aX8_sumShares, .ref aX8_sumSet, .ref aX8_taken, .ref aX8_restUp, .ref aX8_restDown, .int (i32 m_fewest), .int (i32 m_wishes), .ref aX8_wished, .ref aX8_far, .ref aX8_queue, .int (i32 m_divided), .ref aX8_divisors, .ref aX8_least, .long (i64 m_pairOne), .long (i64 m_pairTwo), .long (i64 m_sumUp), .long (i64 m_sumDown)])), (aX8_sumMany, aI X.cI 2000 m_sumMany), (aX8_sumSet, aL X.cJ 2000 m_sumSet)]
    refine q_if_eq g (7) 50 rx40 (by decide) dX8_beside_43 (fun b43 => ?_) (fun b43 => ?_)
    · replace h := h.1 b43
      refine q_iconst g (0) dX8_beside_50 ?_
      refine q_lv (lv' := [(0, .ref hX8), (1, .int (i32 l1)), (3, .int (i32 l3))]) [0, 1, 3] rfl ?_
      exact s_X8_beside_51 g hR hX8 aX8_ups aX8_downs m_many aX8_row m_isSpent aX8_sumMany aX8_sumShares aX8_sumSet aX8_taken aX8_restUp aX8_restDown m_fewest m_wishes aX8_wished aX8_far aX8_queue m_divided aX8_divisors aX8_least m_pairOne m_pairTwo m_sumUp m_sumDown m_found m_sumMany m_sumSet r_m_found r_m_sumMany r_m_sumSet Q hF (wp_X8_beside_28 Q m_found m_sumMany m_sumSet n) (fun v0 v1 v2 w0 w1 w2 hh => ih v0 v1 v2 w0 w1 w2 hh) l1 l3 l2 0 r_l1 r_l3 r_l2 (r32_lit _ (by decide)) h
    replace h := h.2 b43
    refine q_iconst g (1) dX8_beside_46 ?_
    refine q_goto g (4) 51 (by decide) dX8_beside_47 ?_
    refine q_lv (lv' := [(0, .ref hX8), (1, .int (i32 l1)), (3, .int (i32 l3))]) [0, 1, 3] rfl ?_
    exact s_X8_beside_51 g hR hX8 aX8_ups aX8_downs m_many aX8_row m_isSpent aX8_sumMany aX8_sumShares aX8_sumSet aX8_taken aX8_restUp aX8_restDown m_fewest m_wishes aX8_wished aX8_far aX8_queue m_divided aX8_divisors aX8_least m_pairOne m_pairTwo m_sumUp m_sumDown m_found m_sumMany m_sumSet r_m_found r_m_sumMany r_m_sumSet Q hF (wp_X8_beside_28 Q m_found m_sumMany m_sumSet n) (fun v0 v1 v2 w0 w1 w2 hh => ih v0 v1 v2 w0 w1 w2 hh) l1 l3 l2 1 r_l1 r_l3 r_l2 (r32_lit _ (by decide)) h
def wp_X8_beside (Q : Int → Prop) (m_found : Int) (m_sumMany : Int → Int) (m_sumSet : Int → Int) (l1 : Int) : Prop := ((0 ≤ l1 → ((m_found < 0 → wp_X8_beside_21 Q m_found m_sumMany m_sumSet) ∧
  (¬ (m_found < 0) → ((l1 < m_found → (∃ n0 : Nat, wp_X8_beside_28 Q m_found m_sumMany m_sumSet n0 l1 0 0)) ∧
  (¬ (l1 < m_found) → wp_X8_beside_21 Q m_found m_sumMany m_sumSet))))) ∧
  (¬ (0 ≤ l1) → Q (-1)))
set_option maxHeartbeats 4000000 in
set_option maxRecDepth 100000 in
theorem c_X8_beside (l : Launch) (D : va_G) (cI cJ : ClassId) (zt : Nat) (hX8 : Nat) (aX8_ups : Nat) (aX8_downs : Nat) (m_many : Int) (aX8_row : Nat) (m_isSpent : Int) (m_found : Int) (aX8_sumMany : Nat) (aX8_sumShares : Nat) (aX8_sumSet : Nat) (aX8_taken : Nat) (aX8_restUp : Nat) (aX8_restDown : Nat) (m_fewest : Int) (m_wishes : Int) (aX8_wished : Nat) (aX8_far : Nat) (aX8_queue : Nat) (m_divided : Int) (aX8_divisors : Nat) (aX8_least : Nat) (m_pairOne : Int) (m_pairTwo : Int) (m_sumUp : Int) (m_sumDown : Int) (m_sumMany : Int → Int) (m_sumSet : Int → Int) (l1 : Int) (Q : Int → Prop) (r_m_found : r32 m_found) (r_m_sumMany : rr32 m_sumMany) (r_m_sumSet : rr64 m_sumSet) (r_l1 : r32 l1) (h : wp_X8_beside Q m_found m_sumMany m_sumSet l1) : Ct l D cI cJ zt yX8_beside cX8_beside 4 (some .int) 3 0 0 [.ref hX8, .int (i32 l1)] [(hX8, .inr (7, [.ref aX8_ups, .ref aX8_downs, .int (i32 m_many), .ref aX8_row, .int (i32 m_isSpent), .int (i32 m_found), .ref aX8_sumMany, .ref aX8_sumShares, .ref aX8_sumSet, .ref aX8_taken, .ref aX8_restUp, .ref aX8_restDown, .int (i32 m_fewest), .int (i32 m_wishes), .ref aX8_wished, .ref aX8_far, .ref aX8_queue, .int (i32 m_divided), .ref aX8_divisors, .ref aX8_least, .long (i64 m_pairOne), .long (i64 m_pairTwo), .long (i64 m_sumUp), .long (i64 m_sumDown)])), (aX8_sumMany, aI cI 2000 m_sumMany), (aX8_sumSet, aL cJ 2000 m_sumSet)] (po_X8_beside cI cJ hX8 aX8_ups aX8_downs m_many aX8_row m_isSpent m_found aX8_sumMany aX8_sumShares aX8_sumSet aX8_taken aX8_restUp aX8_restDown m_fewest m_wishes aX8_wished aX8_far aX8_queue m_divided aX8_divisors aX8_least m_pairOne m_pairTwo m_sumUp m_sumDown m_sumMany m_sumSet Q) := by
  refine ct_of (by decide +kernel) (Nat.le_of_ble_eq_true rfl) (fun X hl hDD hcI hcJ hzt hR hF hnm g => ?_)
  subst hl; subst hDD; subst hcI; subst hcJ; subst hzt
  show Wat X 0 0 0 [(0, .ref hX8), (1, .int (i32 l1))] [] [(hX8, .inr (7, [.ref aX8_ups, .ref aX8_downs, .int (i32 m_many), .ref aX8_row, .int (i32 m_isSpent), .int (i32 m_found), .ref aX8_sumMany, .ref aX8_sumShares, .ref aX8_sumSet, .ref aX8_taken, .ref aX8_restUp, .ref aX8_restDown, .int (i32 m_fewest), .int (i32 m_wishes), .ref aX8_wished, .ref aX8_far, .ref aX8_queue, .int (i32 m_divided), .ref aX8_divisors, .ref aX8_least, .long (i64 m_pairOne), .long (i64 m_pairTwo), .long (i64 m_sumUp), .long (i64 m_sumDown)])), (aX8_sumMany, aI X.cI 2000 m_sumMany), (aX8_sumSet, aL X.cJ 2000 m_sumSet)]
  replace g : Gd X cX8_beside RX8 (some .int) 4 := g
  rw [wp_X8_beside] at h
  refine q_iload_n g 1 1 rfl dX8_beside_0 ?_
  refine q_if_ge g (5) 6 r_l1 (by decide) dX8_beside_1 (fun b1 => ?_) (fun b1 => ?_)
  · replace h := h.1 b1
    refine q_aload_n g 0 0 rfl dX8_beside_6 ?_
    refine q_get (C := RX8) (T := TX8) (N := 24) g 20 inX8 0 5 rfl rfl (by decide) wF_X8_20 rfl dX8_beside_7 ?_
    refine q_if_lt g (11) 21 r_m_found (by decide) dX8_beside_10 (fun b10 => ?_) (fun b10 => ?_)
    · replace h := h.1 b10
      refine q_lv (lv' := []) [] rfl ?_
      exact s_X8_beside_21 g hR hX8 aX8_ups aX8_downs m_many aX8_row m_isSpent aX8_sumMany aX8_sumShares aX8_sumSet aX8_taken aX8_restUp aX8_restDown m_fewest m_wishes aX8_wished aX8_far aX8_queue m_divided aX8_divisors aX8_least m_pairOne m_pairTwo m_sumUp m_sumDown m_found m_sumMany m_sumSet r_m_found r_m_sumMany r_m_sumSet Q hF h
    replace h := h.2 b10
    refine q_iload_n g 1 1 rfl dX8_beside_13 ?_
    refine q_aload_n g 0 0 rfl dX8_beside_14 ?_
    refine q_get (C := RX8) (T := TX8) (N := 24) g 20 inX8 0 5 rfl rfl (by decide) wF_X8_20 rfl dX8_beside_15 ?_
    refine q_icmp_lt g (6) 24 r_l1 r_m_found (by decide) dX8_beside_18 (fun b18 => ?_) (fun b18 => ?_)
    · replace h := h.1 b18
      refine q_iconst g (0) dX8_beside_24 ?_
      refine q_istore_n (lv' := [(2, .int (i32 0)), (0, .ref hX8), (1, .int (i32 l1))]) g 2 2 rfl (by decide) rfl dX8_beside_25 ?_
      refine q_iconst g (0) dX8_beside_26 ?_
      refine q_istore_n (lv' := [(3, .int (i32 0)), (2, .int (i32 0)), (0, .ref hX8), (1, .int (i32 l1))]) g 3 3 rfl (by decide) rfl dX8_beside_27 ?_
      refine q_lv (lv' := [(0, .ref hX8), (1, .int (i32 l1)), (2, .int (i32 0)), (3, .int (i32 0))]) [2, 3, 1, 0] rfl ?_
      obtain ⟨n0, h⟩ := h
      exact s_X8_beside_28 g hR hX8 aX8_ups aX8_downs m_many aX8_row m_isSpent aX8_sumMany aX8_sumShares aX8_sumSet aX8_taken aX8_restUp aX8_restDown m_fewest m_wishes aX8_wished aX8_far aX8_queue m_divided aX8_divisors aX8_least m_pairOne m_pairTwo m_sumUp m_sumDown m_found m_sumMany m_sumSet r_m_found r_m_sumMany r_m_sumSet Q hF n0 l1 0 0 r_l1 (r32_lit _ (by decide)) (r32_lit _ (by decide)) h
    replace h := h.2 b18
    refine q_lv (lv' := []) [] rfl ?_
    exact s_X8_beside_21 g hR hX8 aX8_ups aX8_downs m_many aX8_row m_isSpent aX8_sumMany aX8_sumShares aX8_sumSet aX8_taken aX8_restUp aX8_restDown m_fewest m_wishes aX8_wished aX8_far aX8_queue m_divided aX8_divisors aX8_least m_pairOne m_pairTwo m_sumUp m_sumDown m_found m_sumMany m_sumSet r_m_found r_m_sumMany r_m_sumSet Q hF h
  replace h := h.2 b1
  refine q_iconst g (-1) dX8_beside_4 ?_
  exact q_iret g hF ⟨(-1), rfl, rfl, (r32_lit _ (by decide)), h⟩ dX8_beside_5
theorem dX8_fault_0 : decode cX8_fault 0 = .ok (.iconst 0, 1) := by decide +kernel
theorem dX8_fault_1 : decode cX8_fault 1 = .ok (.istore_n 1, 1) := by decide +kernel
theorem dX8_fault_2 : decode cX8_fault 2 = .ok (.iload_n 1, 1) := by decide +kernel
theorem dX8_fault_3 : decode cX8_fault 3 = .ok (.aload_n 0, 1) := by decide +kernel
theorem dX8_fault_4 : decode cX8_fault 4 = .ok (.getfield 157, 3) := by decide +kernel
theorem dX8_fault_7 : decode cX8_fault 7 = .ok (.if_icmp .ge 100, 3) := by decide +kernel
theorem dX8_fault_10 : decode cX8_fault 10 = .ok (.aload_n 0, 1) := by decide +kernel
theorem dX8_fault_11 : decode cX8_fault 11 = .ok (.getfield 42, 3) := by decide +kernel
theorem dX8_fault_14 : decode cX8_fault 14 = .ok (.iload_n 1, 1) := by decide +kernel
theorem dX8_fault_15 : decode cX8_fault 15 = .ok (.iaload, 1) := by decide +kernel
theorem dX8_fault_16 : decode cX8_fault 16 = .ok (.istore_n 2, 1) := by decide +kernel
theorem dX8_fault_17 : decode cX8_fault 17 = .ok (.iload_n 2, 1) := by decide +kernel
theorem dX8_fault_18 : decode cX8_fault 18 = .ok (.bipush 102, 2) := by decide +kernel
theorem dX8_fault_20 : decode cX8_fault 20 = .ok (.if_icmp .eq 33, 3) := by decide +kernel
theorem dX8_fault_23 : decode cX8_fault 23 = .ok (.iload_n 2, 1) := by decide +kernel
theorem dX8_fault_24 : decode cX8_fault 24 = .ok (.bipush 108, 2) := by decide +kernel
theorem dX8_fault_26 : decode cX8_fault 26 = .ok (.if_icmp .eq 27, 3) := by decide +kernel
theorem dX8_fault_29 : decode cX8_fault 29 = .ok (.iload_n 2, 1) := by decide +kernel
theorem dX8_fault_30 : decode cX8_fault 30 = .ok (.bipush 103, 2) := by decide +kernel
theorem dX8_fault_32 : decode cX8_fault 32 = .ok (.if_icmp .eq 21, 3) := by decide +kernel
theorem dX8_fault_35 : decode cX8_fault 35 = .ok (.iload_n 2, 1) := by decide +kernel
theorem dX8_fault_36 : decode cX8_fault 36 = .ok (.bipush 115, 2) := by decide +kernel
theorem dX8_fault_38 : decode cX8_fault 38 = .ok (.if_icmp .eq 15, 3) := by decide +kernel
theorem dX8_fault_41 : decode cX8_fault 41 = .ok (.iload_n 2, 1) := by decide +kernel
theorem dX8_fault_42 : decode cX8_fault 42 = .ok (.bipush 101, 2) := by decide +kernel
theorem dX8_fault_44 : decode cX8_fault 44 = .ok (.if_icmp .eq 9, 3) := by decide +kernel
theorem dX8_fault_47 : decode cX8_fault 47 = .ok (.iload_n 2, 1) := by decide +kernel
theorem dX8_fault_48 : decode cX8_fault 48 = .ok (.bipush 111, 2) := by decide +kernel
theorem dX8_fault_50 : decode cX8_fault 50 = .ok (.if_icmp .ne 7, 3) := by decide +kernel
theorem dX8_fault_53 : decode cX8_fault 53 = .ok (.iconst 1, 1) := by decide +kernel
theorem dX8_fault_54 : decode cX8_fault 54 = .ok (.goto 4, 3) := by decide +kernel
theorem dX8_fault_57 : decode cX8_fault 57 = .ok (.iconst 0, 1) := by decide +kernel
theorem dX8_fault_58 : decode cX8_fault 58 = .ok (.istore_n 3, 1) := by decide +kernel
theorem dX8_fault_59 : decode cX8_fault 59 = .ok (.iconst 0, 1) := by decide +kernel
theorem dX8_fault_60 : decode cX8_fault 60 = .ok (.istore 4, 2) := by decide +kernel
theorem dX8_fault_62 : decode cX8_fault 62 = .ok (.iload 4, 2) := by decide +kernel
theorem dX8_fault_64 : decode cX8_fault 64 = .ok (.iload_n 1, 1) := by decide +kernel
theorem dX8_fault_65 : decode cX8_fault 65 = .ok (.if_icmp .ge 30, 3) := by decide +kernel
theorem dX8_fault_68 : decode cX8_fault 68 = .ok (.iload_n 3, 1) := by decide +kernel
theorem dX8_fault_69 : decode cX8_fault 69 = .ok (.ifCond .eq 18, 3) := by decide +kernel
theorem dX8_fault_72 : decode cX8_fault 72 = .ok (.aload_n 0, 1) := by decide +kernel
theorem dX8_fault_73 : decode cX8_fault 73 = .ok (.getfield 42, 3) := by decide +kernel
theorem dX8_fault_76 : decode cX8_fault 76 = .ok (.iload 4, 2) := by decide +kernel
theorem dX8_fault_78 : decode cX8_fault 78 = .ok (.iaload, 1) := by decide +kernel
theorem dX8_fault_79 : decode cX8_fault 79 = .ok (.iload_n 2, 1) := by decide +kernel
theorem dX8_fault_80 : decode cX8_fault 80 = .ok (.if_icmp .eq 7, 3) := by decide +kernel
theorem dX8_fault_83 : decode cX8_fault 83 = .ok (.iconst 1, 1) := by decide +kernel
theorem dX8_fault_84 : decode cX8_fault 84 = .ok (.goto 4, 3) := by decide +kernel
theorem dX8_fault_87 : decode cX8_fault 87 = .ok (.iconst 0, 1) := by decide +kernel
theorem dX8_fault_88 : decode cX8_fault 88 = .ok (.istore_n 3, 1) := by decide +kernel
theorem dX8_fault_89 : decode cX8_fault 89 = .ok (.iinc 4 1, 3) := by decide +kernel
theorem dX8_fault_92 : decode cX8_fault 92 = .ok (.goto (-30), 3) := by decide +kernel
theorem dX8_fault_95 : decode cX8_fault 95 = .ok (.iload_n 3, 1) := by decide +kernel
theorem dX8_fault_96 : decode cX8_fault 96 = .ok (.ifCond .ne 5, 3) := by decide +kernel
theorem dX8_fault_99 : decode cX8_fault 99 = .ok (.iload_n 1, 1) := by decide +kernel
theorem dX8_fault_100 : decode cX8_fault 100 = .ok (.ireturn, 1) := by decide +kernel
theorem dX8_fault_101 : decode cX8_fault 101 = .ok (.iinc 1 1, 3) := by decide +kernel
theorem dX8_fault_104 : decode cX8_fault 104 = .ok (.goto (-102), 3) := by decide +kernel
theorem dX8_fault_107 : decode cX8_fault 107 = .ok (.bipush (-4), 2) := by decide +kernel
theorem dX8_fault_109 : decode cX8_fault 109 = .ok (.ireturn, 1) := by decide +kernel
abbrev po_X8_fault (cI cJ : ClassId) (hX8 : Nat) (aX8_ups : Nat) (aX8_downs : Nat) (m_many : Int) (aX8_row : Nat) (m_isSpent : Int) (m_found : Int) (aX8_sumMany : Nat) (aX8_sumShares : Nat) (aX8_sumSet : Nat) (aX8_taken : Nat) (aX8_restUp : Nat) (aX8_restDown : Nat) (m_fewest : Int) (m_wishes : Int) (aX8_wished : Nat) (aX8_far : Nat) (aX8_queue : Nat) (m_divided : Int) (aX8_divisors : Nat) (aX8_least : Nat) (m_pairOne : Int) (m_pairTwo : Int) (m_sumUp : Int) (m_sumDown : Int) (m_wished : Int → Int) (Q : Int → Prop) : Option Value → va_W → Prop := fun rv w1 => ∃ (r0 : Int), rv = some (.int (i32 r0)) ∧ w1 = [(hX8, .inr (7, [.ref aX8_ups, .ref aX8_downs, .int (i32 m_many), .ref aX8_row, .int (i32 m_isSpent), .int (i32 m_found), .ref aX8_sumMany, .ref aX8_sumShares, .ref aX8_sumSet, .ref aX8_taken, .ref aX8_restUp, .ref aX8_restDown, .int (i32 m_fewest), .int (i32 m_wishes), .ref aX8_wished, .ref aX8_far, .ref aX8_queue, .int (i32 m_divided), .ref aX8_divisors, .ref aX8_least, .long (i64 m_pairOne), .long (i64 m_pairTwo), .long (i64 m_sumUp), .long (i64 m_sumDown)])), (aX8_wished, aI cI 8 m_wished)] ∧ r32 r0 ∧ Q r0
def wp_X8_fault_88 (Q : Int → Prop) (m_wishes : Int) (m_wished : Int → Int) (K_2 : Int → Prop) (K_62 : Int → Int → Int → Int → Prop) (l1 : Int) (l2 : Int) (l4 : Int) (k0 : Int) : Prop := (r32 (l4 + 1) ∧ K_62 l1 l2 k0 (l4 + 1))
set_option maxHeartbeats 4000000 in
set_option maxRecDepth 100000 in
theorem s_X8_fault_88 {X : Cx} (g : Gd X cX8_fault RX8 (some .int) 5) (hR : X.R = rmL 1 0 0) (hX8 : Nat) (aX8_ups : Nat) (aX8_downs : Nat) (m_many : Int) (aX8_row : Nat) (m_isSpent : Int) (m_found : Int) (aX8_sumMany : Nat) (aX8_sumShares : Nat) (aX8_sumSet : Nat) (aX8_taken : Nat) (aX8_restUp : Nat) (aX8_restDown : Nat) (m_fewest : Int) (aX8_wished : Nat) (aX8_far : Nat) (aX8_queue : Nat) (m_divided : Int) (aX8_divisors : Nat) (aX8_least : Nat) (m_pairOne : Int) (m_pairTwo : Int) (m_sumUp : Int) (m_sumDown : Int) (m_wishes : Int) (m_wished : Int → Int) (r_m_wishes : r32 m_wishes) (r_m_wished : rr32 m_wished) (Q : Int → Prop) (hF : FQ X 0 0 (po_X8_fault X.cI X.cJ hX8 aX8_ups aX8_downs m_many aX8_row m_isSpent m_found aX8_sumMany aX8_sumShares aX8_sumSet aX8_taken aX8_restUp aX8_restDown m_fewest m_wishes aX8_wished aX8_far aX8_queue m_divided aX8_divisors aX8_least m_pairOne m_pairTwo m_sumUp m_sumDown m_wished Q)) (K_2 : Int → Prop) (hK_2 : ∀ (l1 : Int), r32 l1 → K_2 l1 → Wat X 0 0 2 [(0, .ref hX8), (1, .int (i32 l1))] [] [(hX8, .inr (7, [.ref aX8_ups, .ref aX8_downs, .int (i32 m_many), .ref aX8_row, .int (i32 m_isSpent), .int (i32 m_found), .ref aX8_sumMany, .ref aX8_sumShares, .ref aX8_sumSet, .ref aX8_taken, .ref aX8_restUp, .ref aX8_restDown, .int (i32 m_fewest), .int (i32 m_wishes), .ref aX8_wished, .ref aX8_far, .ref aX8_queue, .int (i32 m_divided), .ref aX8_divisors, .ref aX8_least, .long (i64 m_pairOne), .long (i64 m_pairTwo), .long (i64 m_sumUp), .long (i64 m_sumDown)])), (aX8_wished, aI X.cI 8 m_wished)]) (K_62 : Int → Int → Int → Int → Prop) (hK_62 : ∀ (l1 : Int) (l2 : Int) (l3 : Int) (l4 : Int), r32 l1 → r32 l2 → r32 l3 → r32 l4 → K_62 l1 l2 l3 l4 → Wat X 0 0 62 [(0, .ref hX8), (1, .int (i32 l1)), (2, .int (i32 l2)), (3, .int (i32 l3)), (4, .int (i32 l4))] [] [(hX8, .inr (7, [.ref aX8_ups, .ref aX8_downs, .int (i32 m_many), .ref aX8_row, .int (i32 m_isSpent), .int (i32 m_found), .ref aX8_sumMany, .ref aX8_sumShares, .ref aX8_sumSet, .ref aX8_taken, .ref aX8_restUp, .ref aX8_restDown, .int (i32 m_fewest), .int (i32 m_wishes), .ref aX8_wished, .ref aX8_far, .ref aX8_queue, .int (i32 m_divided), .ref aX8_divisors, .ref aX8_least, .long (i64 m_pairOne), .long (i64 m_pairTwo), .long (i64 m_sumUp), .long (i64 m_sumDown)])), (aX8_wished, aI X.cI 8 m_wished)]) : ∀ (l1 : Int) (l2 : Int) (l4 : Int) (k0 : Int), r32 l1 → r32 l2 → r32 l4 → r32 k0 → wp_X8_fault_88 Q m_wishes m_wished K_2 K_62 l1 l2 l4 k0 → Wat X 0 0 88 [(0, .ref hX8), (1, .int (i32 l1)), (2, .int (i32 l2)), (4, .int (i32 l4))] [.int (i32 k0)] [(hX8, .inr (7, [.ref aX8_ups, .ref aX8_downs, .int (i32 m_many), .ref aX8_row, .int (i32 m_isSpent), .int (i32 m_found), .ref aX8_sumMany, .ref aX8_sumShares, .ref aX8_sumSet, .ref aX8_taken, .ref aX8_restUp, .ref aX8_restDown, .int (i32 m_fewest), .int (i32 m_wishes), .ref aX8_wished, .ref aX8_far, .ref aX8_queue, .int (i32 m_divided), .ref aX8_divisors, .ref aX8_least, .long (i64 m_pairOne), .long (i64 m_pairTwo), .long (i64 m_sumUp), .long (i64 m_sumDown)])), (aX8_wished, aI X.cI 8 m_wished)] := by
  intro l1 l2 l4 k0 r_l1 r_l2 r_l4 r_k0 h
  rw [wp_X8_fault_88] at h
  refine q_istore_n (lv' := [(3, .int (i32 k0)), (0, .ref hX8), (1, .int (i32 l1)), (2, .int (i32 l2)), (4, .int (i32 l4))]) g 3 3 rfl (by decide) rfl dX8_fault_88 ?_
  obtain ⟨c89, h⟩ := h
  refine q_iinc (lv' := [(4, .int (i32 (l4 + 1))), (3, .int (i32 k0)), (0, .ref hX8), (1, .int (i32 l1)), (2, .int (i32 l2))]) g 4 4 1 (by decide) rfl rfl dX8_fault_89 ?_
  refine q_goto g (-30) 62 (by decide) dX8_fault_92 ?_
  refine q_lv (lv' := [(0, .ref hX8), (1, .int (i32 l1)), (2, .int (i32 l2)), (3, .int (i32 k0)), (4, .int (i32 (l4 + 1)))]) [2, 3, 4, 1, 0] rfl ?_
  exact hK_62 l1 l2 k0 (l4 + 1) r_l1 r_l2 r_k0 c89 h
def wp_X8_fault_87 (Q : Int → Prop) (m_wishes : Int) (m_wished : Int → Int) (K_2 : Int → Prop) (K_62 : Int → Int → Int → Int → Prop) (l1 : Int) (l2 : Int) (l4 : Int) : Prop := wp_X8_fault_88 Q m_wishes m_wished K_2 K_62 l1 l2 l4 0
set_option maxHeartbeats 4000000 in
set_option maxRecDepth 100000 in
theorem s_X8_fault_87 {X : Cx} (g : Gd X cX8_fault RX8 (some .int) 5) (hR : X.R = rmL 1 0 0) (hX8 : Nat) (aX8_ups : Nat) (aX8_downs : Nat) (m_many : Int) (aX8_row : Nat) (m_isSpent : Int) (m_found : Int) (aX8_sumMany : Nat) (aX8_sumShares : Nat) (aX8_sumSet : Nat) (aX8_taken : Nat) (aX8_restUp : Nat) (aX8_restDown : Nat) (m_fewest : Int) (aX8_wished : Nat) (aX8_far : Nat) (aX8_queue : Nat) (m_divided : Int) (aX8_divisors : Nat) (aX8_least : Nat) (m_pairOne : Int) (m_pairTwo : Int) (m_sumUp : Int) (m_sumDown : Int) (m_wishes : Int) (m_wished : Int → Int) (r_m_wishes : r32 m_wishes) (r_m_wished : rr32 m_wished) (Q : Int → Prop) (hF : FQ X 0 0 (po_X8_fault X.cI X.cJ hX8 aX8_ups aX8_downs m_many aX8_row m_isSpent m_found aX8_sumMany aX8_sumShares aX8_sumSet aX8_taken aX8_restUp aX8_restDown m_fewest m_wishes aX8_wished aX8_far aX8_queue m_divided aX8_divisors aX8_least m_pairOne m_pairTwo m_sumUp m_sumDown m_wished Q)) (K_2 : Int → Prop) (hK_2 : ∀ (l1 : Int), r32 l1 → K_2 l1 → Wat X 0 0 2 [(0, .ref hX8), (1, .int (i32 l1))] [] [(hX8, .inr (7, [.ref aX8_ups, .ref aX8_downs, .int (i32 m_many), .ref aX8_row, .int (i32 m_isSpent), .int (i32 m_found), .ref aX8_sumMany, .ref aX8_sumShares, .ref aX8_sumSet, .ref aX8_taken, .ref aX8_restUp, .ref aX8_restDown, .int (i32 m_fewest), .int (i32 m_wishes), .ref aX8_wished, .ref aX8_far, .ref aX8_queue, .int (i32 m_divided), .ref aX8_divisors, .ref aX8_least, .long (i64 m_pairOne), .long (i64 m_pairTwo), .long (i64 m_sumUp), .long (i64 m_sumDown)])), (aX8_wished, aI X.cI 8 m_wished)]) (K_62 : Int → Int → Int → Int → Prop) (hK_62 : ∀ (l1 : Int) (l2 : Int) (l3 : Int) (l4 : Int), r32 l1 → r32 l2 → r32 l3 → r32 l4 → K_62 l1 l2 l3 l4 → Wat X 0 0 62 [(0, .ref hX8), (1, .int (i32 l1)), (2, .int (i32 l2)), (3, .int (i32 l3)), (4, .int (i32 l4))] [] [(hX8, .inr (7, [.ref aX8_ups, .ref aX8_downs, .int (i32 m_many), .ref aX8_row, .int (i32 m_isSpent), .int (i32 m_found), .ref aX8_sumMany, .ref aX8_sumShares, .ref aX8_sumSet, .ref aX8_taken, .ref aX8_restUp, .ref aX8_restDown, .int (i32 m_fewest), .int (i32 m_wishes), .ref aX8_wished, .ref aX8_far, .ref aX8_queue, .int (i32 m_divided), .ref aX8_divisors, .ref aX8_least, .long (i64 m_pairOne), .long (i64 m_pairTwo), .long (i64 m_sumUp), .long (i64 m_sumDown)])), (aX8_wished, aI X.cI 8 m_wished)]) : ∀ (l1 : Int) (l2 : Int) (l4 : Int), r32 l1 → r32 l2 → r32 l4 → wp_X8_fault_87 Q m_wishes m_wished K_2 K_62 l1 l2 l4 → Wat X 0 0 87 [(0, .ref hX8), (1, .int (i32 l1)), (2, .int (i32 l2)), (4, .int (i32 l4))] [] [(hX8, .inr (7, [.ref aX8_ups, .ref aX8_downs, .int (i32 m_many), .ref aX8_row, .int (i32 m_isSpent), .int (i32 m_found), .ref aX8_sumMany, .ref aX8_sumShares, .ref aX8_sumSet, .ref aX8_taken, .ref aX8_restUp, .ref aX8_restDown, .int (i32 m_fewest), .int (i32 m_wishes), .ref aX8_wished, .ref aX8_far, .ref aX8_queue, .int (i32 m_divided), .ref aX8_divisors, .ref aX8_least, .long (i64 m_pairOne), .long (i64 m_pairTwo), .long (i64 m_sumUp), .long (i64 m_sumDown)])), (aX8_wished, aI X.cI 8 m_wished)] := by
  intro l1 l2 l4 r_l1 r_l2 r_l4 h
  rw [wp_X8_fault_87] at h
  refine q_iconst g (0) dX8_fault_87 ?_
  exact s_X8_fault_88 g hR hX8 aX8_ups aX8_downs m_many aX8_row m_isSpent m_found aX8_sumMany aX8_sumShares aX8_sumSet aX8_taken aX8_restUp aX8_restDown m_fewest aX8_wished aX8_far aX8_queue m_divided aX8_divisors aX8_least m_pairOne m_pairTwo m_sumUp m_sumDown m_wishes m_wished r_m_wishes r_m_wished Q hF K_2 hK_2 K_62 hK_62 l1 l2 l4 0 r_l1 r_l2 r_l4 (r32_lit _ (by decide)) h
def wp_X8_fault_62 (Q : Int → Prop) (m_wishes : Int) (m_wished : Int → Int) (K_2 : Int → Prop) : Nat → Int → Int → Int → Int → Prop
  | 0, _, _, _, _ => False
  | n + 1, l1, l2, l3, l4 => ((l1 ≤ l4 → ((¬ l3 = 0 → (r32 (l1 + 1) ∧ K_2 (l1 + 1))) ∧
  (l3 = 0 → Q l1))) ∧
  (¬ (l1 ≤ l4) → ((l3 = 0 → wp_X8_fault_87 Q m_wishes m_wished K_2 (wp_X8_fault_62 Q m_wishes m_wished K_2 n) l1 l2 l4) ∧
  (¬ (l3 = 0) → (0 ≤ l4 ∧ l4 < 8 ∧ (((m_wished l4) = l2 → wp_X8_fault_87 Q m_wishes m_wished K_2 (wp_X8_fault_62 Q m_wishes m_wished K_2 n) l1 l2 l4) ∧
  (¬ ((m_wished l4) = l2) → wp_X8_fault_88 Q m_wishes m_wished K_2 (wp_X8_fault_62 Q m_wishes m_wished K_2 n) l1 l2 l4 1)))))))
set_option maxHeartbeats 4000000 in
set_option maxRecDepth 100000 in
theorem s_X8_fault_62 {X : Cx} (g : Gd X cX8_fault RX8 (some .int) 5) (hR : X.R = rmL 1 0 0) (hX8 : Nat) (aX8_ups : Nat) (aX8_downs : Nat) (m_many : Int) (aX8_row : Nat) (m_isSpent : Int) (m_found : Int) (aX8_sumMany : Nat) (aX8_sumShares : Nat) (aX8_sumSet : Nat) (aX8_taken : Nat) (aX8_restUp : Nat) (aX8_restDown : Nat) (m_fewest : Int) (aX8_wished : Nat) (aX8_far : Nat) (aX8_queue : Nat) (m_divided : Int) (aX8_divisors : Nat) (aX8_least : Nat) (m_pairOne : Int) (m_pairTwo : Int) (m_sumUp : Int) (m_sumDown : Int) (m_wishes : Int) (m_wished : Int → Int) (r_m_wishes : r32 m_wishes) (r_m_wished : rr32 m_wished) (Q : Int → Prop) (hF : FQ X 0 0 (po_X8_fault X.cI X.cJ hX8 aX8_ups aX8_downs m_many aX8_row m_isSpent m_found aX8_sumMany aX8_sumShares aX8_sumSet aX8_taken aX8_restUp aX8_restDown m_fewest m_wishes aX8_wished aX8_far aX8_queue m_divided aX8_divisors aX8_least m_pairOne m_pairTwo m_sumUp m_sumDown m_wished Q)) (K_2 : Int → Prop) (hK_2 : ∀ (l1 : Int), r32 l1 → K_2 l1 → Wat X 0 0 2 [(0, .ref hX8), (1, .int (i32 l1))] [] [(hX8, .inr (7, [.ref aX8_ups, .ref aX8_downs, .int (i32 m_many), .ref aX8_row, .int (i32 m_isSpent), .int (i32 m_found), .ref aX8_sumMany, .ref aX8_sumShares, .ref aX8_sumSet, .ref aX8_taken, .ref aX8_restUp, .ref aX8_restDown, .int (i32 m_fewest), .int (i32 m_wishes), .ref aX8_wished, .ref aX8_far, .ref aX8_queue, .int (i32 m_divided), .ref aX8_divisors, .ref aX8_least, .long (i64 m_pairOne), .long (i64 m_pairTwo), .long (i64 m_sumUp), .long (i64 m_sumDown)])), (aX8_wished, aI X.cI 8 m_wished)]) : ∀ (n : Nat) (l1 : Int) (l2 : Int) (l3 : Int) (l4 : Int), r32 l1 → r32 l2 → r32 l3 → r32 l4 → wp_X8_fault_62 Q m_wishes m_wished K_2 n l1 l2 l3 l4 → Wat X 0 0 62 [(0, .ref hX8), (1, .int (i32 l1)), (2, .int (i32 l2)), (3, .int (i32 l3)), (4, .int (i32 l4))] [] [(hX8, .inr (7, [.ref aX8_ups, .ref aX8_downs, .int (i32 m_many), .ref aX8_row, .int (i32 m_isSpent), .int (i32 m_found), .ref aX8_sumMany, .ref aX8_sumShares, .ref aX8_sumSet, .ref aX8_taken, .ref aX8_restUp, .ref aX8_restDown, .int (i32 m_fewest), .int (i32 m_wishes), .ref aX8_wished, .ref aX8_far, .ref aX8_queue, .int (i32 m_divided), .ref aX8_divisors, .ref aX8_least, .long (i64 m_pairOne), .long (i64 m_pairTwo), .long (i64 m_sumUp), .long (i64 m_sumDown)])), (aX8_wished, aI X.cI 8 m_wished)] := by
  intro n
  induction n with
  | zero => intro l1 l2 l3 l4 r_l1 r_l2 r_l3 r_l4 h; exact False.elim h
  | succ n ih =>
    intro l1 l2 l3 l4 r_l1 r_l2 r_l3 r_l4 h
    rw [wp_X8_fault_62] at h
    refine q_iload g 4 4 rfl dX8_fault_62 ?_
    refine q_iload_n g 1 1 rfl dX8_fault_64 ?_
    refine q_icmp_ge g (30) 95 r_l4 r_l1 (by decide) dX8_fault_65 (fun b65 => ?_) (fun b65 => ?_)
    · replace h := h.1 b65
      refine q_iload_n g 3 3 rfl dX8_fault_95 ?_
      refine q_if_ne g (5) 101 r_l3 (by decide) dX8_fault_96 (fun b96 => ?_) (fun b96 => ?_)
      · replace h := h.1 b96
        obtain ⟨c101, h⟩ := h
        refine q_iinc (lv' := [(1, .int (i32 (l1 + 1))), (0, .ref hX8), (2, .int (i32 l2)), (3, .int (i32 l3)), (4, .int (i32 l4))]) g 1 1 1 (by decide) rfl rfl dX8_fault_101 ?_
        refine q_goto g (-102) 2 (by decide) dX8_fault_104 ?_
        refine q_lv (lv' := [(0, .ref hX8), (1, .int (i32 (l1 + 1)))]) [1, 0] rfl ?_
        exact hK_2 (l1 + 1) c101 h
      replace h := h.2 b96
      refine q_iload_n g 1 1 rfl dX8_fault_99 ?_
      exact q_iret g hF ⟨l1, rfl, rfl, r_l1, h⟩ dX8_fault_100
    replace h := h.2 b65
    refine q_iload_n g 3 3 rfl dX8_fault_68 ?_
    refine q_if_eq g (18) 87 r_l3 (by decide) dX8_fault_69 (fun b69 => ?_) (fun b69 => ?_)
    · replace h := h.1 b69
      refine q_lv (lv' := [(0, .ref hX8), (1, .int (i32 l1)), (2, .int (i32 l2)), (4, .int (i32 l4))]) [0, 1, 2, 4] rfl ?_
      exact s_X8_fault_87 g hR hX8 aX8_ups aX8_downs m_many aX8_row m_isSpent m_found aX8_sumMany aX8_sumShares aX8_sumSet aX8_taken aX8_restUp aX8_restDown m_fewest aX8_wished aX8_far aX8_queue m_divided aX8_divisors aX8_least m_pairOne m_pairTwo m_sumUp m_sumDown m_wishes m_wished r_m_wishes r_m_wished Q hF K_2 hK_2 (wp_X8_fault_62 Q m_wishes m_wished K_2 n) (fun v0 v1 v2 v3 w0 w1 w2 w3 hh => ih v0 v1 v2 v3 w0 w1 w2 w3 hh) l1 l2 l4 r_l1 r_l2 r_l4 h
    replace h := h.2 b69
    refine q_aload_n g 0 0 rfl dX8_fault_72 ?_
    refine q_get (C := RX8) (T := TX8) (N := 24) g 42 inX8 0 14 rfl rfl (by decide) wF_X8_42 rfl dX8_fault_73 ?_
    refine q_iload g 4 4 rfl dX8_fault_76 ?_
    obtain ⟨c78, h⟩ := h
    obtain ⟨e78, h⟩ := h
    refine q_iald g 1 rfl c78 e78 (by decide) dX8_fault_78 ?_
    refine q_iload_n g 2 2 rfl dX8_fault_79 ?_
    refine q_icmp_eq g (7) 87 (r_m_wished _) r_l2 (by decide) dX8_fault_80 (fun b80 => ?_) (fun b80 => ?_)
    · replace h := h.1 b80
      refine q_lv (lv' := [(0, .ref hX8), (1, .int (i32 l1)), (2, .int (i32 l2)), (4, .int (i32 l4))]) [0, 1, 2, 4] rfl ?_
      exact s_X8_fault_87 g hR hX8 aX8_ups aX8_downs m_many aX8_row m_isSpent m_found aX8_sumMany aX8_sumShares aX8_sumSet aX8_taken aX8_restUp aX8_restDown m_fewest aX8_wished aX8_far aX8_queue m_divided aX8_divisors aX8_least m_pairOne m_pairTwo m_sumUp m_sumDown m_wishes m_wished r_m_wishes r_m_wished Q hF K_2 hK_2 (wp_X8_fault_62 Q m_wishes m_wished K_2 n) (fun v0 v1 v2 v3 w0 w1 w2 w3 hh => ih v0 v1 v2 v3 w0 w1 w2 w3 hh) l1 l2 l4 r_l1 r_l2 r_l4 h
    replace h := h.2 b80
    refine q_iconst g (1) dX8_fault_83 ?_
    refine q_goto g (4) 88 (by decide) dX8_fault_84 ?_
    refine q_lv (lv' := [(0, .ref hX8), (1, .int (i32 l1)), (2, .int (i32 l2)), (4, .int (i32 l4))]) [0, 1, 2, 4] rfl ?_
    exact s_X8_fault_88 g hR hX8 aX8_ups aX8_downs m_many aX8_row m_isSpent m_found aX8_sumMany aX8_sumShares aX8_sumSet aX8_taken aX8_restUp aX8_restDown m_fewest aX8_wished aX8_far aX8_queue m_divided aX8_divisors aX8_least m_pairOne m_pairTwo m_sumUp m_sumDown m_wishes m_wished r_m_wishes r_m_wished Q hF K_2 hK_2 (wp_X8_fault_62 Q m_wishes m_wished K_2 n) (fun v0 v1 v2 v3 w0 w1 w2 w3 hh => ih v0 v1 v2 v3 w0 w1 w2 w3 hh) l1 l2 l4 1 r_l1 r_l2 r_l4 (r32_lit _ (by decide)) h
def wp_X8_fault_58 (Q : Int → Prop) (m_wishes : Int) (m_wished : Int → Int) (K_2 : Int → Prop) (l1 : Int) (l2 : Int) (k0 : Int) : Prop := (∃ n0 : Nat, wp_X8_fault_62 Q m_wishes m_wished K_2 n0 l1 l2 k0 0)
set_option maxHeartbeats 4000000 in
set_option maxRecDepth 100000 in
theorem s_X8_fault_58 {X : Cx} (g : Gd X cX8_fault RX8 (some .int) 5) (hR : X.R = rmL 1 0 0) (hX8 : Nat) (aX8_ups : Nat) (aX8_downs : Nat) (m_many : Int) (aX8_row : Nat) (m_isSpent : Int) (m_found : Int) (aX8_sumMany : Nat) (aX8_sumShares : Nat) (aX8_sumSet : Nat) (aX8_taken : Nat) (aX8_restUp : Nat) (aX8_restDown : Nat) (m_fewest : Int) (aX8_wished : Nat) (aX8_far : Nat) (aX8_queue : Nat) (m_divided : Int) (aX8_divisors : Nat) (aX8_least : Nat) (m_pairOne : Int) (m_pairTwo : Int) (m_sumUp : Int) (m_sumDown : Int) (m_wishes : Int) (m_wished : Int → Int) (r_m_wishes : r32 m_wishes) (r_m_wished : rr32 m_wished) (Q : Int → Prop) (hF : FQ X 0 0 (po_X8_fault X.cI X.cJ hX8 aX8_ups aX8_downs m_many aX8_row m_isSpent m_found aX8_sumMany aX8_sumShares aX8_sumSet aX8_taken aX8_restUp aX8_restDown m_fewest m_wishes aX8_wished aX8_far aX8_queue m_divided aX8_divisors aX8_least m_pairOne m_pairTwo m_sumUp m_sumDown m_wished Q)) (K_2 : Int → Prop) (hK_2 : ∀ (l1 : Int), r32 l1 → K_2 l1 → Wat X 0 0 2 [(0, .ref hX8), (1, .int (i32 l1))] [] [(hX8, .inr (7, [.ref aX8_ups, .ref aX8_downs, .int (i32 m_many), .ref aX8_row, .int (i32 m_isSpent), .int (i32 m_found), .ref aX8_sumMany, .ref aX8_sumShares, .ref aX8_sumSet, .ref aX8_taken, .ref aX8_restUp, .ref aX8_restDown, .int (i32 m_fewest), .int (i32 m_wishes), .ref aX8_wished, .ref aX8_far, .ref aX8_queue, .int (i32 m_divided), .ref aX8_divisors, .ref aX8_least, .long (i64 m_pairOne), .long (i64 m_pairTwo), .long (i64 m_sumUp), .long (i64 m_sumDown)])), (aX8_wished, aI X.cI 8 m_wished)]) : ∀ (l1 : Int) (l2 : Int) (k0 : Int), r32 l1 → r32 l2 → r32 k0 → wp_X8_fault_58 Q m_wishes m_wished K_2 l1 l2 k0 → Wat X 0 0 58 [(0, .ref hX8), (1, .int (i32 l1)), (2, .int (i32 l2))] [.int (i32 k0)] [(hX8, .inr (7, [.ref aX8_ups, .ref aX8_downs, .int (i32 m_many), .ref aX8_row, .int (i32 m_isSpent), .int (i32 m_found), .ref aX8_sumMany, .ref aX8_sumShares, .ref aX8_sumSet, .ref aX8_taken, .ref aX8_restUp, .ref aX8_restDown, .int (i32 m_fewest), .int (i32 m_wishes), .ref aX8_wished, .ref aX8_far, .ref aX8_queue, .int (i32 m_divided), .ref aX8_divisors, .ref aX8_least, .long (i64 m_pairOne), .long (i64 m_pairTwo), .long (i64 m_sumUp), .long (i64 m_sumDown)])), (aX8_wished, aI X.cI 8 m_wished)] := by
  intro l1 l2 k0 r_l1 r_l2 r_k0 h
  rw [wp_X8_fault_58] at h
  refine q_istore_n (lv' := [(3, .int (i32 k0)), (0, .ref hX8), (1, .int (i32 l1)), (2, .int (i32 l2))]) g 3 3 rfl (by decide) rfl dX8_fault_58 ?_
  refine q_iconst g (0) dX8_fault_59 ?_
  refine q_istore (lv' := [(4, .int (i32 0)), (3, .int (i32 k0)), (0, .ref hX8), (1, .int (i32 l1)), (2, .int (i32 l2))]) g 4   (by decide) rfl dX8_fault_60 ?_
  refine q_lv (lv' := [(0, .ref hX8), (1, .int (i32 l1)), (2, .int (i32 l2)), (3, .int (i32 k0)), (4, .int (i32 0))]) [2, 3, 4, 1, 0] rfl ?_
  obtain ⟨n0, h⟩ := h
  exact s_X8_fault_62 g hR hX8 aX8_ups aX8_downs m_many aX8_row m_isSpent m_found aX8_sumMany aX8_sumShares aX8_sumSet aX8_taken aX8_restUp aX8_restDown m_fewest aX8_wished aX8_far aX8_queue m_divided aX8_divisors aX8_least m_pairOne m_pairTwo m_sumUp m_sumDown m_wishes m_wished r_m_wishes r_m_wished Q hF K_2 hK_2 n0 l1 l2 k0 0 r_l1 r_l2 r_k0 (r32_lit _ (by decide)) h
def wp_X8_fault_53 (Q : Int → Prop) (m_wishes : Int) (m_wished : Int → Int) (K_2 : Int → Prop) (l1 : Int) (l2 : Int) : Prop := wp_X8_fault_58 Q m_wishes m_wished K_2 l1 l2 1
set_option maxHeartbeats 4000000 in
set_option maxRecDepth 100000 in
theorem s_X8_fault_53 {X : Cx} (g : Gd X cX8_fault RX8 (some .int) 5) (hR : X.R = rmL 1 0 0) (hX8 : Nat) (aX8_ups : Nat) (aX8_downs : Nat) (m_many : Int) (aX8_row : Nat) (m_isSpent : Int) (m_found : Int) (aX8_sumMany : Nat) (aX8_sumShares : Nat) (aX8_sumSet : Nat) (aX8_taken : Nat) (aX8_restUp : Nat) (aX8_restDown : Nat) (m_fewest : Int) (aX8_wished : Nat) (aX8_far : Nat) (aX8_queue : Nat) (m_divided : Int) (aX8_divisors : Nat) (aX8_least : Nat) (m_pairOne : Int) (m_pairTwo : Int) (m_sumUp : Int) (m_sumDown : Int) (m_wishes : Int) (m_wished : Int → Int) (r_m_wishes : r32 m_wishes) (r_m_wished : rr32 m_wished) (Q : Int → Prop) (hF : FQ X 0 0 (po_X8_fault X.cI X.cJ hX8 aX8_ups aX8_downs m_many aX8_row m_isSpent m_found aX8_sumMany aX8_sumShares aX8_sumSet aX8_taken aX8_restUp aX8_restDown m_fewest m_wishes aX8_wished aX8_far aX8_queue m_divided aX8_divisors aX8_least m_pairOne m_pairTwo m_sumUp m_sumDown m_wished Q)) (K_2 : Int → Prop) (hK_2 : ∀ (l1 : Int), r32 l1 → K_2 l1 → Wat X 0 0 2 [(0, .ref hX8), (1, .int (i32 l1))] [] [(hX8, .inr (7, [.ref aX8_ups, .ref aX8_downs, .int (i32 m_many), .ref aX8_row, .int (i32 m_isSpent), .int (i32 m_found), .ref aX8_sumMany, .ref aX8_sumShares, .ref aX8_sumSet, .ref aX8_taken, .ref aX8_restUp, .ref aX8_restDown, .int (i32 m_fewest), .int (i32 m_wishes), .ref aX8_wished, .ref aX8_far, .ref aX8_queue, .int (i32 m_divided), .ref aX8_divisors, .ref aX8_least, .long (i64 m_pairOne), .long (i64 m_pairTwo), .long (i64 m_sumUp), .long (i64 m_sumDown)])), (aX8_wished, aI X.cI 8 m_wished)]) : ∀ (l1 : Int) (l2 : Int), r32 l1 → r32 l2 → wp_X8_fault_53 Q m_wishes m_wished K_2 l1 l2 → Wat X 0 0 53 [(0, .ref hX8), (1, .int (i32 l1)), (2, .int (i32 l2))] [] [(hX8, .inr (7, [.ref aX8_ups, .ref aX8_downs, .int (i32 m_many), .ref aX8_row, .int (i32 m_isSpent), .int (i32 m_found), .ref aX8_sumMany, .ref aX8_sumShares, .ref aX8_sumSet, .ref aX8_taken, .ref aX8_restUp, .ref aX8_restDown, .int (i32 m_fewest), .int (i32 m_wishes), .ref aX8_wished, .ref aX8_far, .ref aX8_queue, .int (i32 m_divided), .ref aX8_divisors, .ref aX8_least, .long (i64 m_pairOne), .long (i64 m_pairTwo), .long (i64 m_sumUp), .long (i64 m_sumDown)])), (aX8_wished, aI X.cI 8 m_wished)] := by
  intro l1 l2 r_l1 r_l2 h
  rw [wp_X8_fault_53] at h
  refine q_iconst g (1) dX8_fault_53 ?_
  refine q_goto g (4) 58 (by decide) dX8_fault_54 ?_
  exact s_X8_fault_58 g hR hX8 aX8_ups aX8_downs m_many aX8_row m_isSpent m_found aX8_sumMany aX8_sumShares aX8_sumSet aX8_taken aX8_restUp aX8_restDown m_fewest aX8_wished aX8_far aX8_queue m_divided aX8_divisors aX8_least m_pairOne m_pairTwo m_sumUp m_sumDown m_wishes m_wished r_m_wishes r_m_wished Q hF K_2 hK_2 l1 l2 1 r_l1 r_l2 (r32_lit _ (by decide)) h
def wp_X8_fault_2 (Q : Int → Prop) (m_wishes : Int) (m_wished : Int → Int) : Nat → Int → Prop
  | 0, _ => False
  | n + 1, l1 => ((m_wishes ≤ l1 → Q (-4)) ∧
  (¬ (m_wishes ≤ l1) → (0 ≤ l1 ∧ l1 < 8 ∧ ∀ x16 : Int, x16 = (m_wished l1) → ((x16 = 102 → wp_X8_fault_53 Q m_wishes m_wished (wp_X8_fault_2 Q m_wishes m_wished n) l1 x16) ∧
  (¬ (x16 = 102) → ((x16 = 108 → wp_X8_fault_53 Q m_wishes m_wished (wp_X8_fault_2 Q m_wishes m_wished n) l1 x16) ∧
  (¬ (x16 = 108) → ((x16 = 103 → wp_X8_fault_53 Q m_wishes m_wished (wp_X8_fault_2 Q m_wishes m_wished n) l1 x16) ∧
  (¬ (x16 = 103) → ((x16 = 115 → wp_X8_fault_53 Q m_wishes m_wished (wp_X8_fault_2 Q m_wishes m_wished n) l1 x16) ∧
  (¬ (x16 = 115) → ((x16 = 101 → wp_X8_fault_53 Q m_wishes m_wished (wp_X8_fault_2 Q m_wishes m_wished n) l1 x16) ∧
  (¬ (x16 = 101) → ((¬ x16 = 111 → wp_X8_fault_58 Q m_wishes m_wished (wp_X8_fault_2 Q m_wishes m_wished n) l1 x16 0) ∧
  (x16 = 111 → wp_X8_fault_53 Q m_wishes m_wished (wp_X8_fault_2 Q m_wishes m_wished n) l1 x16)))))))))))))))
set_option maxHeartbeats 4000000 in
set_option maxRecDepth 100000 in
theorem s_X8_fault_2 {X : Cx} (g : Gd X cX8_fault RX8 (some .int) 5) (hR : X.R = rmL 1 0 0) (hX8 : Nat) (aX8_ups : Nat) (aX8_downs : Nat) (m_many : Int) (aX8_row : Nat) (m_isSpent : Int) (m_found : Int) (aX8_sumMany : Nat) (aX8_sumShares : Nat) (aX8_sumSet : Nat) (aX8_taken : Nat) (aX8_restUp : Nat) (aX8_restDown : Nat) (m_fewest : Int) (aX8_wished : Nat) (aX8_far : Nat) (aX8_queue : Nat) (m_divided : Int) (aX8_divisors : Nat) (aX8_least : Nat) (m_pairOne : Int) (m_pairTwo : Int) (m_sumUp : Int) (m_sumDown : Int) (m_wishes : Int) (m_wished : Int → Int) (r_m_wishes : r32 m_wishes) (r_m_wished : rr32 m_wished) (Q : Int → Prop) (hF : FQ X 0 0 (po_X8_fault X.cI X.cJ hX8 aX8_ups aX8_downs m_many aX8_row m_isSpent m_found aX8_sumMany aX8_sumShares aX8_sumSet aX8_taken aX8_restUp aX8_restDown m_fewest m_wishes aX8_wished aX8_far aX8_queue m_divided aX8_divisors aX8_least m_pairOne m_pairTwo m_sumUp m_sumDown m_wished Q)) : ∀ (n : Nat) (l1 : Int), r32 l1 → wp_X8_fault_2 Q m_wishes m_wished n l1 → Wat X 0 0 2 [(0, .ref hX8), (1, .int (i32 l1))] [] [(hX8, .inr (7, [.ref aX8_ups, .ref aX8_downs, .int (i32 m_many), .ref aX8_row, .int (i32 m_isSpent), .int (i32 m_found), .ref aX8_sumMany, .ref aX8_sumShares, .ref aX8_sumSet, .ref aX8_taken, .ref aX8_restUp, .ref aX8_restDown, .int (i32 m_fewest), .int (i32 m_wishes), .ref aX8_wished, .ref aX8_far, .ref aX8_queue, .int (i32 m_divided), .ref aX8_divisors, .ref aX8_least, .long (i64 m_pairOne), .long (i64 m_pairTwo), .long (i64 m_sumUp), .long (i64 m_sumDown)])), (aX8_wished, aI X.cI 8 m_wished)] := by
  intro n
  induction n with
  | zero => intro l1 r_l1 h; exact False.elim h
  | succ n ih =>
    intro l1 r_l1 h
    rw [wp_X8_fault_2] at h
    refine q_iload_n g 1 1 rfl dX8_fault_2 ?_
    refine q_aload_n g 0 0 rfl dX8_fault_3 ?_
    refine q_get (C := RX8) (T := TX8) (N := 24) g 157 inX8 0 13 rfl rfl (by decide) wF_X8_157 rfl dX8_fault_4 ?_
    refine q_icmp_ge g (100) 107 r_l1 r_m_wishes (by decide) dX8_fault_7 (fun b7 => ?_) (fun b7 => ?_)
    · replace h := h.1 b7
      refine q_bipush g (-4) (by decide) (by decide) dX8_fault_107 ?_
      exact q_iret g hF ⟨(-4), rfl, rfl, (r32_lit _ (by decide)), h⟩ dX8_fault_109
    replace h := h.2 b7
    refine q_aload_n g 0 0 rfl dX8_fault_10 ?_
    refine q_get (C := RX8) (T := TX8) (N := 24) g 42 inX8 0 14 rfl rfl (by decide) wF_X8_42 rfl dX8_fault_11 ?_
    refine q_iload_n g 1 1 rfl dX8_fault_14 ?_
    obtain ⟨c15, h⟩ := h
    obtain ⟨e15, h⟩ := h
    refine q_iald g 1 rfl c15 e15 (by decide) dX8_fault_15 ?_
    refine q_topi (r_m_wished _) (fun x16 ex16 rx16 => ?_)
    replace h := h x16 ex16
    refine q_istore_n (lv' := [(2, .int (i32 x16)), (0, .ref hX8), (1, .int (i32 l1))]) g 2 2 rfl (by decide) rfl dX8_fault_16 ?_
    refine q_iload_n g 2 0 rfl dX8_fault_17 ?_
    refine q_bipush g (102) (by decide) (by decide) dX8_fault_18 ?_
    refine q_icmp_eq g (33) 53 rx16 (r32_lit _ (by decide)) (by decide) dX8_fault_20 (fun b20 => ?_) (fun b20 => ?_)
    · replace h := h.1 b20
      refine q_lv (lv' := [(0, .ref hX8), (1, .int (i32 l1)), (2, .int (i32 x16))]) [1, 2, 0] rfl ?_
      exact s_X8_fault_53 g hR hX8 aX8_ups aX8_downs m_many aX8_row m_isSpent m_found aX8_sumMany aX8_sumShares aX8_sumSet aX8_taken aX8_restUp aX8_restDown m_fewest aX8_wished aX8_far aX8_queue m_divided aX8_divisors aX8_least m_pairOne m_pairTwo m_sumUp m_sumDown m_wishes m_wished r_m_wishes r_m_wished Q hF (wp_X8_fault_2 Q m_wishes m_wished n) (fun v0 w0 hh => ih v0 w0 hh) l1 x16 r_l1 rx16 h
    replace h := h.2 b20
    refine q_iload_n g 2 0 rfl dX8_fault_23 ?_
    refine q_bipush g (108) (by decide) (by decide) dX8_fault_24 ?_
    refine q_icmp_eq g (27) 53 rx16 (r32_lit _ (by decide)) (by decide) dX8_fault_26 (fun b26 => ?_) (fun b26 => ?_)
    · replace h := h.1 b26
      refine q_lv (lv' := [(0, .ref hX8), (1, .int (i32 l1)), (2, .int (i32 x16))]) [1, 2, 0] rfl ?_
      exact s_X8_fault_53 g hR hX8 aX8_ups aX8_downs m_many aX8_row m_isSpent m_found aX8_sumMany aX8_sumShares aX8_sumSet aX8_taken aX8_restUp aX8_restDown m_fewest aX8_wished aX8_far aX8_queue m_divided aX8_divisors aX8_least m_pairOne m_pairTwo m_sumUp m_sumDown m_wishes m_wished r_m_wishes r_m_wished Q hF (wp_X8_fault_2 Q m_wishes m_wished n) (fun v0 w0 hh => ih v0 w0 hh) l1 x16 r_l1 rx16 h
    replace h := h.2 b26
    refine q_iload_n g 2 0 rfl dX8_fault_29 ?_
    refine q_bipush g (103) (by decide) (by decide) dX8_fault_30 ?_
    refine q_icmp_eq g (21) 53 rx16 (r32_lit _ (by decide)) (by decide) dX8_fault_32 (fun b32 => ?_) (fun b32 => ?_)
    · replace h := h.1 b32
      refine q_lv (lv' := [(0, .ref hX8), (1, .int (i32 l1)), (2, .int (i32 x16))]) [1, 2, 0] rfl ?_
      exact s_X8_fault_53 g hR hX8 aX8_ups aX8_downs m_many aX8_row m_isSpent m_found aX8_sumMany aX8_sumShares aX8_sumSet aX8_taken aX8_restUp aX8_restDown m_fewest aX8_wished aX8_far aX8_queue m_divided aX8_divisors aX8_least m_pairOne m_pairTwo m_sumUp m_sumDown m_wishes m_wished r_m_wishes r_m_wished Q hF (wp_X8_fault_2 Q m_wishes m_wished n) (fun v0 w0 hh => ih v0 w0 hh) l1 x16 r_l1 rx16 h
    replace h := h.2 b32
    refine q_iload_n g 2 0 rfl dX8_fault_35 ?_
    refine q_bipush g (115) (by decide) (by decide) dX8_fault_36 ?_
    refine q_icmp_eq g (15) 53 rx16 (r32_lit _ (by decide)) (by decide) dX8_fault_38 (fun b38 => ?_) (fun b38 => ?_)
    · replace h := h.1 b38
      refine q_lv (lv' := [(0, .ref hX8), (1, .int (i32 l1)), (2, .int (i32 x16))]) [1, 2, 0] rfl ?_
      exact s_X8_fault_53 g hR hX8 aX8_ups aX8_downs m_many aX8_row m_isSpent m_found aX8_sumMany aX8_sumShares aX8_sumSet aX8_taken aX8_restUp aX8_restDown m_fewest aX8_wished aX8_far aX8_queue m_divided aX8_divisors aX8_least m_pairOne m_pairTwo m_sumUp m_sumDown m_wishes m_wished r_m_wishes r_m_wished Q hF (wp_X8_fault_2 Q m_wishes m_wished n) (fun v0 w0 hh => ih v0 w0 hh) l1 x16 r_l1 rx16 h
    replace h := h.2 b38
    refine q_iload_n g 2 0 rfl dX8_fault_41 ?_
    refine q_bipush g (101) (by decide) (by decide) dX8_fault_42 ?_
    refine q_icmp_eq g (9) 53 rx16 (r32_lit _ (by decide)) (by decide) dX8_fault_44 (fun b44 => ?_) (fun b44 => ?_)
    · replace h := h.1 b44
      refine q_lv (lv' := [(0, .ref hX8), (1, .int (i32 l1)), (2, .int (i32 x16))]) [1, 2, 0] rfl ?_
      exact s_X8_fault_53 g hR hX8 aX8_ups aX8_downs m_many aX8_row m_isSpent m_found aX8_sumMany aX8_sumShares aX8_sumSet aX8_taken aX8_restUp aX8_restDown m_fewest aX8_wished aX8_far aX8_queue m_divided aX8_divisors aX8_least m_pairOne m_pairTwo m_sumUp m_sumDown m_wishes m_wished r_m_wishes r_m_wished Q hF (wp_X8_fault_2 Q m_wishes m_wished n) (fun v0 w0 hh => ih v0 w0 hh) l1 x16 r_l1 rx16 h
    replace h := h.2 b44
    refine q_iload_n g 2 0 rfl dX8_fault_47 ?_
    refine q_bipush g (111) (by decide) (by decide) dX8_fault_48 ?_
    refine q_icmp_ne g (7) 57 rx16 (r32_lit _ (by decide)) (by decide) dX8_fault_50 (fun b50 => ?_) (fun b50 => ?_)
    · replace h := h.1 b50
      refine q_iconst g (0) dX8_fault_57 ?_
      refine q_lv (lv' := [(0, .ref hX8), (1, .int (i32 l1)), (2, .int (i32 x16))]) [1, 2, 0] rfl ?_
      exact s_X8_fault_58 g hR hX8 aX8_ups aX8_downs m_many aX8_row m_isSpent m_found aX8_sumMany aX8_sumShares aX8_sumSet aX8_taken aX8_restUp aX8_restDown m_fewest aX8_wished aX8_far aX8_queue m_divided aX8_divisors aX8_least m_pairOne m_pairTwo m_sumUp m_sumDown m_wishes m_wished r_m_wishes r_m_wished Q hF (wp_X8_fault_2 Q m_wishes m_wished n) (fun v0 w0 hh => ih v0 w0 hh) l1 x16 0 r_l1 rx16 (r32_lit _ (by decide)) h
    replace h := h.2 b50
    refine q_lv (lv' := [(0, .ref hX8), (1, .int (i32 l1)), (2, .int (i32 x16))]) [1, 2, 0] rfl ?_
    exact s_X8_fault_53 g hR hX8 aX8_ups aX8_downs m_many aX8_row m_isSpent m_found aX8_sumMany aX8_sumShares aX8_sumSet aX8_taken aX8_restUp aX8_restDown m_fewest aX8_wished aX8_far aX8_queue m_divided aX8_divisors aX8_least m_pairOne m_pairTwo m_sumUp m_sumDown m_wishes m_wished r_m_wishes r_m_wished Q hF (wp_X8_fault_2 Q m_wishes m_wished n) (fun v0 w0 hh => ih v0 w0 hh) l1 x16 r_l1 rx16 h
def wp_X8_fault (Q : Int → Prop) (m_wishes : Int) (m_wished : Int → Int) : Prop := (∃ n0 : Nat, wp_X8_fault_2 Q m_wishes m_wished n0 0)
set_option maxHeartbeats 4000000 in
set_option maxRecDepth 100000 in
theorem c_X8_fault (l : Launch) (D : va_G) (cI cJ : ClassId) (zt : Nat) (hX8 : Nat) (aX8_ups : Nat) (aX8_downs : Nat) (m_many : Int) (aX8_row : Nat) (m_isSpent : Int) (m_found : Int) (aX8_sumMany : Nat) (aX8_sumShares : Nat) (aX8_sumSet : Nat) (aX8_taken : Nat) (aX8_restUp : Nat) (aX8_restDown : Nat) (m_fewest : Int) (m_wishes : Int) (aX8_wished : Nat) (aX8_far : Nat) (aX8_queue : Nat) (m_divided : Int) (aX8_divisors : Nat) (aX8_least : Nat) (m_pairOne : Int) (m_pairTwo : Int) (m_sumUp : Int) (m_sumDown : Int) (m_wished : Int → Int) (Q : Int → Prop) (r_m_wishes : r32 m_wishes) (r_m_wished : rr32 m_wished) (h : wp_X8_fault Q m_wishes m_wished) : Ct l D cI cJ zt yX8_fault cX8_fault 5 (some .int) 1 0 0 [.ref hX8] [(hX8, .inr (7, [.ref aX8_ups, .ref aX8_downs, .int (i32 m_many), .ref aX8_row, .int (i32 m_isSpent), .int (i32 m_found), .ref aX8_sumMany, .ref aX8_sumShares, .ref aX8_sumSet, .ref aX8_taken, .ref aX8_restUp, .ref aX8_restDown, .int (i32 m_fewest), .int (i32 m_wishes), .ref aX8_wished, .ref aX8_far, .ref aX8_queue, .int (i32 m_divided), .ref aX8_divisors, .ref aX8_least, .long (i64 m_pairOne), .long (i64 m_pairTwo), .long (i64 m_sumUp), .long (i64 m_sumDown)])), (aX8_wished, aI cI 8 m_wished)] (po_X8_fault cI cJ hX8 aX8_ups aX8_downs m_many aX8_row m_isSpent m_found aX8_sumMany aX8_sumShares aX8_sumSet aX8_taken aX8_restUp aX8_restDown m_fewest m_wishes aX8_wished aX8_far aX8_queue m_divided aX8_divisors aX8_least m_pairOne m_pairTwo m_sumUp m_sumDown m_wished Q) := by
  refine ct_of (by decide +kernel) (Nat.le_of_ble_eq_true rfl) (fun X hl hDD hcI hcJ hzt hR hF hnm g => ?_)
  subst hl; subst hDD; subst hcI; subst hcJ; subst hzt
  show Wat X 0 0 0 [(0, .ref hX8)] [] [(hX8, .inr (7, [.ref aX8_ups, .ref aX8_downs, .int (i32 m_many), .ref aX8_row, .int (i32 m_isSpent), .int (i32 m_found), .ref aX8_sumMany, .ref aX8_sumShares, .ref aX8_sumSet, .ref aX8_taken, .ref aX8_restUp, .ref aX8_restDown, .int (i32 m_fewest), .int (i32 m_wishes), .ref aX8_wished, .ref aX8_far, .ref aX8_queue, .int (i32 m_divided), .ref aX8_divisors, .ref aX8_least, .long (i64 m_pairOne), .long (i64 m_pairTwo), .long (i64 m_sumUp), .long (i64 m_sumDown)])), (aX8_wished, aI X.cI 8 m_wished)]
  replace g : Gd X cX8_fault RX8 (some .int) 5 := g
  rw [wp_X8_fault] at h
  refine q_iconst g (0) dX8_fault_0 ?_
  refine q_istore_n (lv' := [(1, .int (i32 0)), (0, .ref hX8)]) g 1 1 rfl (by decide) rfl dX8_fault_1 ?_
  refine q_lv (lv' := [(0, .ref hX8), (1, .int (i32 0))]) [1, 0] rfl ?_
  obtain ⟨n0, h⟩ := h
  exact s_X8_fault_2 g hR hX8 aX8_ups aX8_downs m_many aX8_row m_isSpent m_found aX8_sumMany aX8_sumShares aX8_sumSet aX8_taken aX8_restUp aX8_restDown m_fewest aX8_wished aX8_far aX8_queue m_divided aX8_divisors aX8_least m_pairOne m_pairTwo m_sumUp m_sumDown m_wishes m_wished r_m_wishes r_m_wished Q hF n0 0 (r32_lit _ (by decide)) h
theorem dX8_worth_0 : decode cX8_worth 0 = .ok (.aload_n 0, 1) := by decide +kernel
theorem dX8_worth_1 : decode cX8_worth 1 = .ok (.getfield 24, 3) := by decide +kernel
theorem dX8_worth_4 : decode cX8_worth 4 = .ok (.iload_n 1, 1) := by decide +kernel
theorem dX8_worth_5 : decode cX8_worth 5 = .ok (.iaload, 1) := by decide +kernel
theorem dX8_worth_6 : decode cX8_worth 6 = .ok (.istore_n 3, 1) := by decide +kernel
theorem dX8_worth_7 : decode cX8_worth 7 = .ok (.iconst 0, 1) := by decide +kernel
theorem dX8_worth_8 : decode cX8_worth 8 = .ok (.istore 4, 2) := by decide +kernel
theorem dX8_worth_10 : decode cX8_worth 10 = .ok (.iconst 0, 1) := by decide +kernel
theorem dX8_worth_11 : decode cX8_worth 11 = .ok (.istore 5, 2) := by decide +kernel
theorem dX8_worth_13 : decode cX8_worth 13 = .ok (.iconst 0, 1) := by decide +kernel
theorem dX8_worth_14 : decode cX8_worth 14 = .ok (.istore 6, 2) := by decide +kernel
theorem dX8_worth_16 : decode cX8_worth 16 = .ok (.iload 6, 2) := by decide +kernel
theorem dX8_worth_18 : decode cX8_worth 18 = .ok (.iload_n 3, 1) := by decide +kernel
theorem dX8_worth_19 : decode cX8_worth 19 = .ok (.if_icmp .ge 45, 3) := by decide +kernel
theorem dX8_worth_22 : decode cX8_worth 22 = .ok (.iload 4, 2) := by decide +kernel
theorem dX8_worth_24 : decode cX8_worth 24 = .ok (.aload_n 0, 1) := by decide +kernel
theorem dX8_worth_25 : decode cX8_worth 25 = .ok (.getfield 27, 3) := by decide +kernel
theorem dX8_worth_28 : decode cX8_worth 28 = .ok (.bipush 6, 2) := by decide +kernel
theorem dX8_worth_30 : decode cX8_worth 30 = .ok (.iload_n 1, 1) := by decide +kernel
theorem dX8_worth_31 : decode cX8_worth 31 = .ok (.imul, 1) := by decide +kernel
theorem dX8_worth_32 : decode cX8_worth 32 = .ok (.iload 6, 2) := by decide +kernel
theorem dX8_worth_34 : decode cX8_worth 34 = .ok (.iadd, 1) := by decide +kernel
theorem dX8_worth_35 : decode cX8_worth 35 = .ok (.iaload, 1) := by decide +kernel
theorem dX8_worth_36 : decode cX8_worth 36 = .ok (.iadd, 1) := by decide +kernel
theorem dX8_worth_37 : decode cX8_worth 37 = .ok (.istore 4, 2) := by decide +kernel
theorem dX8_worth_39 : decode cX8_worth 39 = .ok (.iload 5, 2) := by decide +kernel
theorem dX8_worth_41 : decode cX8_worth 41 = .ok (.aload_n 0, 1) := by decide +kernel
theorem dX8_worth_42 : decode cX8_worth 42 = .ok (.getfield 27, 3) := by decide +kernel
theorem dX8_worth_45 : decode cX8_worth 45 = .ok (.bipush 6, 2) := by decide +kernel
theorem dX8_worth_47 : decode cX8_worth 47 = .ok (.iload_n 1, 1) := by decide +kernel
theorem dX8_worth_48 : decode cX8_worth 48 = .ok (.imul, 1) := by decide +kernel
theorem dX8_worth_49 : decode cX8_worth 49 = .ok (.iload 6, 2) := by decide +kernel
theorem dX8_worth_51 : decode cX8_worth 51 = .ok (.iadd, 1) := by decide +kernel
theorem dX8_worth_52 : decode cX8_worth 52 = .ok (.iaload, 1) := by decide +kernel
theorem dX8_worth_53 : decode cX8_worth 53 = .ok (.iconst 2, 1) := by decide +kernel
theorem dX8_worth_54 : decode cX8_worth 54 = .ok (.irem, 1) := by decide +kernel
theorem dX8_worth_55 : decode cX8_worth 55 = .ok (.iadd, 1) := by decide +kernel
theorem dX8_worth_56 : decode cX8_worth 56 = .ok (.istore 5, 2) := by decide +kernel
theorem dX8_worth_58 : decode cX8_worth 58 = .ok (.iinc 6 1, 3) := by decide +kernel
theorem dX8_worth_61 : decode cX8_worth 61 = .ok (.goto (-45), 3) := by decide +kernel
theorem dX8_worth_64 : decode cX8_worth 64 = .ok (.iload_n 2, 1) := by decide +kernel
theorem dX8_worth_65 : decode cX8_worth 65 = .ok (.tableswitch 110 101 115 #[105, 75, 91, 110, 110, 110, 110, 77, 110, 110, 110, 110, 110, 110, 102], 75) := by decide +kernel
theorem dX8_worth_140 : decode cX8_worth 140 = .ok (.iload_n 3, 1) := by decide +kernel
theorem dX8_worth_141 : decode cX8_worth 141 = .ok (.ireturn, 1) := by decide +kernel
theorem dX8_worth_142 : decode cX8_worth 142 = .ok (.aload_n 0, 1) := by decide +kernel
theorem dX8_worth_143 : decode cX8_worth 143 = .ok (.getfield 27, 3) := by decide +kernel
theorem dX8_worth_146 : decode cX8_worth 146 = .ok (.bipush 6, 2) := by decide +kernel
theorem dX8_worth_148 : decode cX8_worth 148 = .ok (.iload_n 1, 1) := by decide +kernel
theorem dX8_worth_149 : decode cX8_worth 149 = .ok (.imul, 1) := by decide +kernel
theorem dX8_worth_150 : decode cX8_worth 150 = .ok (.iload_n 3, 1) := by decide +kernel
theorem dX8_worth_151 : decode cX8_worth 151 = .ok (.iadd, 1) := by decide +kernel
theorem dX8_worth_152 : decode cX8_worth 152 = .ok (.iconst 1, 1) := by decide +kernel
theorem dX8_worth_153 : decode cX8_worth 153 = .ok (.isub, 1) := by decide +kernel
theorem dX8_worth_154 : decode cX8_worth 154 = .ok (.iaload, 1) := by decide +kernel
theorem dX8_worth_155 : decode cX8_worth 155 = .ok (.ireturn, 1) := by decide +kernel
theorem dX8_worth_156 : decode cX8_worth 156 = .ok (.aload_n 0, 1) := by decide +kernel
theorem dX8_worth_157 : decode cX8_worth 157 = .ok (.getfield 27, 3) := by decide +kernel
theorem dX8_worth_160 : decode cX8_worth 160 = .ok (.bipush 6, 2) := by decide +kernel
theorem dX8_worth_162 : decode cX8_worth 162 = .ok (.iload_n 1, 1) := by decide +kernel
theorem dX8_worth_163 : decode cX8_worth 163 = .ok (.imul, 1) := by decide +kernel
theorem dX8_worth_164 : decode cX8_worth 164 = .ok (.iaload, 1) := by decide +kernel
theorem dX8_worth_165 : decode cX8_worth 165 = .ok (.ineg, 1) := by decide +kernel
theorem dX8_worth_166 : decode cX8_worth 166 = .ok (.ireturn, 1) := by decide +kernel
theorem dX8_worth_167 : decode cX8_worth 167 = .ok (.iload 4, 2) := by decide +kernel
theorem dX8_worth_169 : decode cX8_worth 169 = .ok (.ireturn, 1) := by decide +kernel
theorem dX8_worth_170 : decode cX8_worth 170 = .ok (.iload 5, 2) := by decide +kernel
theorem dX8_worth_172 : decode cX8_worth 172 = .ok (.iload_n 3, 1) := by decide +kernel
theorem dX8_worth_173 : decode cX8_worth 173 = .ok (.isub, 1) := by decide +kernel
theorem dX8_worth_174 : decode cX8_worth 174 = .ok (.ireturn, 1) := by decide +kernel
theorem dX8_worth_175 : decode cX8_worth 175 = .ok (.iload 5, 2) := by decide +kernel
theorem dX8_worth_177 : decode cX8_worth 177 = .ok (.ineg, 1) := by decide +kernel
theorem dX8_worth_178 : decode cX8_worth 178 = .ok (.ireturn, 1) := by decide +kernel
abbrev po_X8_worth (cI cJ : ClassId) (hX8 : Nat) (aX8_ups : Nat) (aX8_downs : Nat) (m_many : Int) (aX8_row : Nat) (m_isSpent : Int) (m_found : Int) (aX8_sumMany : Nat) (aX8_sumShares : Nat) (aX8_sumSet : Nat) (aX8_taken : Nat) (aX8_restUp : Nat) (aX8_restDown : Nat) (m_fewest : Int) (m_wishes : Int) (aX8_wished : Nat) (aX8_far : Nat) (aX8_queue : Nat) (m_divided : Int) (aX8_divisors : Nat) (aX8_least : Nat) (m_pairOne : Int) (m_pairTwo : Int) (m_sumUp : Int) (m_sumDown : Int) (m_sumMany : Int → Int) (m_sumShares : Int → Int) (Q : Int → Prop) : Option Value → va_W → Prop := fun rv w1 => ∃ (r0 : Int), rv = some (.int (i32 r0)) ∧ w1 = [(hX8, .inr (7, [.ref aX8_ups, .ref aX8_downs, .int (i32 m_many), .ref aX8_row, .int (i32 m_isSpent), .int (i32 m_found), .ref aX8_sumMany, .ref aX8_sumShares, .ref aX8_sumSet, .ref aX8_taken, .ref aX8_restUp, .ref aX8_restDown, .int (i32 m_fewest), .int (i32 m_wishes), .ref aX8_wished, .ref aX8_far, .ref aX8_queue, .int (i32 m_divided), .ref aX8_divisors, .ref aX8_least, .long (i64 m_pairOne), .long (i64 m_pairTwo), .long (i64 m_sumUp), .long (i64 m_sumDown)])), (aX8_sumMany, aI cI 2000 m_sumMany), (aX8_sumShares, aI cI 12000 m_sumShares)] ∧ r32 r0 ∧ Q r0
def wp_X8_worth_175 (Q : Int → Prop) (m_sumMany : Int → Int) (m_sumShares : Int → Int) (l5 : Int) : Prop := (r32 (-l5) ∧ Q (-l5))
set_option maxHeartbeats 4000000 in
set_option maxRecDepth 100000 in
theorem s_X8_worth_175 {X : Cx} (g : Gd X cX8_worth RX8 (some .int) 7) (hR : X.R = rmL 1 0 0) (hX8 : Nat) (aX8_ups : Nat) (aX8_downs : Nat) (m_many : Int) (aX8_row : Nat) (m_isSpent : Int) (m_found : Int) (aX8_sumMany : Nat) (aX8_sumShares : Nat) (aX8_sumSet : Nat) (aX8_taken : Nat) (aX8_restUp : Nat) (aX8_restDown : Nat) (m_fewest : Int) (m_wishes : Int) (aX8_wished : Nat) (aX8_far : Nat) (aX8_queue : Nat) (m_divided : Int) (aX8_divisors : Nat) (aX8_least : Nat) (m_pairOne : Int) (m_pairTwo : Int) (m_sumUp : Int) (m_sumDown : Int) (m_sumMany : Int → Int) (m_sumShares : Int → Int) (r_m_sumMany : rr32 m_sumMany) (r_m_sumShares : rr32 m_sumShares) (Q : Int → Prop) (hF : FQ X 0 0 (po_X8_worth X.cI X.cJ hX8 aX8_ups aX8_downs m_many aX8_row m_isSpent m_found aX8_sumMany aX8_sumShares aX8_sumSet aX8_taken aX8_restUp aX8_restDown m_fewest m_wishes aX8_wished aX8_far aX8_queue m_divided aX8_divisors aX8_least m_pairOne m_pairTwo m_sumUp m_sumDown m_sumMany m_sumShares Q)) : ∀ (l5 : Int), r32 l5 → wp_X8_worth_175 Q m_sumMany m_sumShares l5 → Wat X 0 0 175 [(5, .int (i32 l5))] [] [(hX8, .inr (7, [.ref aX8_ups, .ref aX8_downs, .int (i32 m_many), .ref aX8_row, .int (i32 m_isSpent), .int (i32 m_found), .ref aX8_sumMany, .ref aX8_sumShares, .ref aX8_sumSet, .ref aX8_taken, .ref aX8_restUp, .ref aX8_restDown, .int (i32 m_fewest), .int (i32 m_wishes), .ref aX8_wished, .ref aX8_far, .ref aX8_queue, .int (i32 m_divided), .ref aX8_divisors, .ref aX8_least, .long (i64 m_pairOne), .long (i64 m_pairTwo), .long (i64 m_sumUp), .long (i64 m_sumDown)])), (aX8_sumMany, aI X.cI 2000 m_sumMany), (aX8_sumShares, aI X.cI 12000 m_sumShares)] := by
  intro l5 r_l5 h
  rw [wp_X8_worth_175] at h
  refine q_iload g 5 0 rfl dX8_worth_175 ?_
  obtain ⟨c177, h⟩ := h
  refine q_ineg g dX8_worth_177 ?_
  exact q_iret g hF ⟨(-l5), rfl, rfl, c177, h⟩ dX8_worth_178
def wp_X8_worth_16 (Q : Int → Prop) (m_sumMany : Int → Int) (m_sumShares : Int → Int) : Nat → Int → Int → Int → Int → Int → Int → Prop
  | 0, _, _, _, _, _, _ => False
  | n + 1, l1, l2, l3, l4, l5, l6 => ((l3 ≤ l6 → ((l2 < 101 ∨ 115 < l2 → wp_X8_worth_175 Q m_sumMany m_sumShares l5) ∧
  (l2 = 101 → (r32 (l5 - l3) ∧ Q (l5 - l3))) ∧
  (l2 = 102 → Q l3) ∧
  (l2 = 103 → (r32 (6 * l1) ∧ 0 ≤ (6 * l1) ∧ (6 * l1) < 12000 ∧ r32 (-(m_sumShares (6 * l1))) ∧ Q (-(m_sumShares (6 * l1))))) ∧
  (l2 = 104 → wp_X8_worth_175 Q m_sumMany m_sumShares l5) ∧
  (l2 = 105 → wp_X8_worth_175 Q m_sumMany m_sumShares l5) ∧
  (l2 = 106 → wp_X8_worth_175 Q m_sumMany m_sumShares l5) ∧
  (l2 = 107 → wp_X8_worth_175 Q m_sumMany m_sumShares l5) ∧
  (l2 = 108 → (r32 (6 * l1) ∧ r32 ((6 * l1) + l3) ∧ r32 (((6 * l1) + l3) - 1) ∧ 0 ≤ (((6 * l1) + l3) - 1) ∧ (((6 * l1) + l3) - 1) < 12000 ∧ Q (m_sumShares (((6 * l1) + l3) - 1)))) ∧
  (l2 = 109 → wp_X8_worth_175 Q m_sumMany m_sumShares l5) ∧
  (l2 = 110 → wp_X8_worth_175 Q m_sumMany m_sumShares l5) ∧
  (l2 = 111 → wp_X8_worth_175 Q m_sumMany m_sumShares l5) ∧
  (l2 = 112 → wp_X8_worth_175 Q m_sumMany m_sumShares l5) ∧
  (l2 = 113 → wp_X8_worth_175 Q m_sumMany m_sumShares l5) ∧
  (l2 = 114 → wp_X8_worth_175 Q m_sumMany m_sumShares l5) ∧
  (l2 = 115 → Q l4))) ∧
  (¬ (l3 ≤ l6) → (r32 (6 * l1) ∧ r32 ((6 * l1) + l6) ∧ 0 ≤ ((6 * l1) + l6) ∧ ((6 * l1) + l6) < 12000 ∧ r32 (l4 + (m_sumShares ((6 * l1) + l6))) ∧ ∀ x37 : Int, x37 = (l4 + (m_sumShares ((6 * l1) + l6))) → r32 (6 * l1) ∧ r32 ((6 * l1) + l6) ∧ 0 ≤ ((6 * l1) + l6) ∧ ((6 * l1) + l6) < 12000 ∧ r32 (l5 + (Int.tmod (m_sumShares ((6 * l1) + l6)) 2)) ∧ ∀ x56 : Int, x56 = (l5 + (Int.tmod (m_sumShares ((6 * l1) + l6)) 2)) → r32 (l6 + 1) ∧ wp_X8_worth_16 Q m_sumMany m_sumShares n l1 l2 l3 x37 x56 (l6 + 1))))
set_option maxHeartbeats 4000000 in
set_option maxRecDepth 100000 in
theorem s_X8_worth_16 {X : Cx} (g : Gd X cX8_worth RX8 (some .int) 7) (hR : X.R = rmL 1 0 0) (hX8 : Nat) (aX8_ups : Nat) (aX8_downs : Nat) (m_many : Int) (aX8_row : Nat) (m_isSpent : Int) (m_found : Int) (aX8_sumMany : Nat) (aX8_sumShares : Nat) (aX8_sumSet : Nat) (aX8_taken : Nat) (aX8_restUp : Nat) (aX8_restDown : Nat) (m_fewest : Int) (m_wishes : Int) (aX8_wished : Nat) (aX8_far : Nat) (aX8_queue : Nat) (m_divided : Int) (aX8_divisors : Nat) (aX8_least : Nat) (m_pairOne : Int) (m_pairTwo : Int) (m_sumUp : Int) (m_sumDown : Int) (m_sumMany : Int → Int) (m_sumShares : Int → Int) (r_m_sumMany : rr32 m_sumMany) (r_m_sumShares : rr32 m_sumShares) (Q : Int → Prop) (hF : FQ X 0 0 (po_X8_worth X.cI X.cJ hX8 aX8_ups aX8_downs m_many aX8_row m_isSpent m_found aX8_sumMany aX8_sumShares aX8_sumSet aX8_taken aX8_restUp aX8_restDown m_fewest m_wishes aX8_wished aX8_far aX8_queue m_divided aX8_divisors aX8_least m_pairOne m_pairTwo m_sumUp m_sumDown m_sumMany m_sumShares Q)) : ∀ (n : Nat) (l1 : Int) (l2 : Int) (l3 : Int) (l4 : Int) (l5 : Int) (l6 : Int), r32 l1 → r32 l2 → r32 l3 → r32 l4 → r32 l5 → r32 l6 → wp_X8_worth_16 Q m_sumMany m_sumShares n l1 l2 l3 l4 l5 l6 → Wat X 0 0 16 [(0, .ref hX8), (1, .int (i32 l1)), (2, .int (i32 l2)), (3, .int (i32 l3)), (4, .int (i32 l4)), (5, .int (i32 l5)), (6, .int (i32 l6))] [] [(hX8, .inr (7, [.ref aX8_ups, .ref aX8_downs, .int (i32 m_many), .ref aX8_row, .int (i32 m_isSpent), .int (i32 m_found), .ref aX8_sumMany, .ref aX8_sumShares, .ref aX8_sumSet, .ref aX8_taken, .ref aX8_restUp, .ref aX8_restDown, .int (i32 m_fewest), .int (i32 m_wishes), .ref aX8_wished, .ref aX8_far, .ref aX8_queue, .int (i32 m_divided), .ref aX8_divisors, .ref aX8_least, .long (i64 m_pairOne), .long (i64 m_pairTwo), .long (i64 m_sumUp), .long (i64 m_sumDown)])), (aX8_sumMany, aI X.cI 2000 m_sumMany), (aX8_sumShares, aI X.cI 12000 m_sumShares)] := by
  intro n
  induction n with
  | zero => intro l1 l2 l3 l4 l5 l6 r_l1 r_l2 r_l3 r_l4 r_l5 r_l6 h; exact False.elim h
  | succ n ih =>
    intro l1 l2 l3 l4 l5 l6 r_l1 r_l2 r_l3 r_l4 r_l5 r_l6 h
    rw [wp_X8_worth_16] at h
    refine q_iload g 6 6 rfl dX8_worth_16 ?_
    refine q_iload_n g 3 3 rfl dX8_worth_18 ?_
    refine q_icmp_ge g (45) 64 r_l6 r_l3 (by decide) dX8_worth_19 (fun b19 => ?_) (fun b19 => ?_)
    · replace h := h.1 b19
      refine q_iload_n g 2 2 rfl dX8_worth_64 ?_
      by_cases bo65 : l2 < 101 ∨ 115 < l2
      · replace h := h.1 bo65
        refine q_tabOut g 175 r_l2 bo65 (by decide) dX8_worth_65 ?_
        refine q_lv (lv' := [(5, .int (i32 l5))]) [5] rfl ?_
        exact s_X8_worth_175 g hR hX8 aX8_ups aX8_downs m_many aX8_row m_isSpent m_found aX8_sumMany aX8_sumShares aX8_sumSet aX8_taken aX8_restUp aX8_restDown m_fewest m_wishes aX8_wished aX8_far aX8_queue m_divided aX8_divisors aX8_least m_pairOne m_pairTwo m_sumUp m_sumDown m_sumMany m_sumShares r_m_sumMany r_m_sumShares Q hF l5 r_l5 h
      replace h := h.2
      have bs65 : l2 = 101 ∨ l2 = 102 ∨ l2 = 103 ∨ l2 = 104 ∨ l2 = 105 ∨ l2 = 106 ∨ l2 = 107 ∨ l2 = 108 ∨ l2 = 109 ∨ l2 = 110 ∨ l2 = 111 ∨ l2 = 112 ∨ l2 = 113 ∨ l2 = 114 ∨ l2 = 115 := by omega
      rcases bs65 with bs65 | bs65
      · replace h := h.1 bs65
        refine q_tabIn g 170 101 r_l2 bs65 (by decide) (by decide) rfl (by decide) dX8_worth_65 ?_
        refine q_iload g 5 5 rfl dX8_worth_170 ?_
        refine q_iload_n g 3 3 rfl dX8_worth_172 ?_
        obtain ⟨c173, h⟩ := h
        refine q_isub g dX8_worth_173 ?_
        exact q_iret g hF ⟨(l5 - l3), rfl, rfl, c173, h⟩ dX8_worth_174
      replace h := h.2
      rcases bs65 with bs65 | bs65
      · replace h := h.1 bs65
        refine q_tabIn g 140 102 r_l2 bs65 (by decide) (by decide) rfl (by decide) dX8_worth_65 ?_
        refine q_iload_n g 3 3 rfl dX8_worth_140 ?_
        exact q_iret g hF ⟨l3, rfl, rfl, r_l3, h⟩ dX8_worth_141
      replace h := h.2
      rcases bs65 with bs65 | bs65
      · replace h := h.1 bs65
        refine q_tabIn g 156 103 r_l2 bs65 (by decide) (by decide) rfl (by decide) dX8_worth_65 ?_
        refine q_aload_n g 0 0 rfl dX8_worth_156 ?_
        refine q_get (C := RX8) (T := TX8) (N := 24) g 27 inX8 0 7 rfl rfl (by decide) wF_X8_27 rfl dX8_worth_157 ?_
        refine q_bipush g (6) (by decide) (by decide) dX8_worth_160 ?_
        refine q_iload_n g 1 1 rfl dX8_worth_162 ?_
        obtain ⟨c163, h⟩ := h
        refine q_imul g dX8_worth_163 ?_
        obtain ⟨c164, h⟩ := h
        obtain ⟨e164, h⟩ := h
        refine q_iald g 2 rfl c164 e164 (by decide) dX8_worth_164 ?_
        obtain ⟨c165, h⟩ := h
        refine q_ineg g dX8_worth_165 ?_
        exact q_iret g hF ⟨(-(m_sumShares (6 * l1))), rfl, rfl, c165, h⟩ dX8_worth_166
      replace h := h.2
      rcases bs65 with bs65 | bs65
      · replace h := h.1 bs65
        refine q_tabIn g 175 104 r_l2 bs65 (by decide) (by decide) rfl (by decide) dX8_worth_65 ?_
        refine q_lv (lv' := [(5, .int (i32 l5))]) [5] rfl ?_
        exact s_X8_worth_175 g hR hX8 aX8_ups aX8_downs m_many aX8_row m_isSpent m_found aX8_sumMany aX8_sumShares aX8_sumSet aX8_taken aX8_restUp aX8_restDown m_fewest m_wishes aX8_wished aX8_far aX8_queue m_divided aX8_divisors aX8_least m_pairOne m_pairTwo m_sumUp m_sumDown m_sumMany m_sumShares r_m_sumMany r_m_sumShares Q hF l5 r_l5 h
      replace h := h.2
      rcases bs65 with bs65 | bs65
      · replace h := h.1 bs65
        refine q_tabIn g 175 105 r_l2 bs65 (by decide) (by decide) rfl (by decide) dX8_worth_65 ?_
        refine q_lv (lv' := [(5, .int (i32 l5))]) [5] rfl ?_
        exact s_X8_worth_175 g hR hX8 aX8_ups aX8_downs m_many aX8_row m_isSpent m_found aX8_sumMany aX8_sumShares aX8_sumSet aX8_taken aX8_restUp aX8_restDown m_fewest m_wishes aX8_wished aX8_far aX8_queue m_divided aX8_divisors aX8_least m_pairOne m_pairTwo m_sumUp m_sumDown m_sumMany m_sumShares r_m_sumMany r_m_sumShares Q hF l5 r_l5 h
      replace h := h.2
      rcases bs65 with bs65 | bs65
      · replace h := h.1 bs65
        refine q_tabIn g 175 106 r_l2 bs65 (by decide) (by decide) rfl (by decide) dX8_worth_65 ?_
        refine q_lv (lv' := [(5, .int (i32 l5))]) [5] rfl ?_
        exact s_X8_worth_175 g hR hX8 aX8_ups aX8_downs m_many aX8_row m_isSpent m_found aX8_sumMany aX8_sumShares aX8_sumSet aX8_taken aX8_restUp aX8_restDown m_fewest m_wishes aX8_wished aX8_far aX8_queue m_divided aX8_divisors aX8_least m_pairOne m_pairTwo m_sumUp m_sumDown m_sumMany m_sumShares r_m_sumMany r_m_sumShares Q hF l5 r_l5 h
      replace h := h.2
      rcases bs65 with bs65 | bs65
      · replace h := h.1 bs65
        refine q_tabIn g 175 107 r_l2 bs65 (by decide) (by decide) rfl (by decide) dX8_worth_65 ?_
        refine q_lv (lv' := [(5, .int (i32 l5))]) [5] rfl ?_
        exact s_X8_worth_175 g hR hX8 aX8_ups aX8_downs m_many aX8_row m_isSpent m_found aX8_sumMany aX8_sumShares aX8_sumSet aX8_taken aX8_restUp aX8_restDown m_fewest m_wishes aX8_wished aX8_far aX8_queue m_divided aX8_divisors aX8_least m_pairOne m_pairTwo m_sumUp m_sumDown m_sumMany m_sumShares r_m_sumMany r_m_sumShares Q hF l5 r_l5 h
      replace h := h.2
      rcases bs65 with bs65 | bs65
      · replace h := h.1 bs65
        refine q_tabIn g 142 108 r_l2 bs65 (by decide) (by decide) rfl (by decide) dX8_worth_65 ?_
        refine q_aload_n g 0 0 rfl dX8_worth_142 ?_
        refine q_get (C := RX8) (T := TX8) (N := 24) g 27 inX8 0 7 rfl rfl (by decide) wF_X8_27 rfl dX8_worth_143 ?_
        refine q_bipush g (6) (by decide) (by decide) dX8_worth_146 ?_
        refine q_iload_n g 1 1 rfl dX8_worth_148 ?_
        obtain ⟨c149, h⟩ := h
        refine q_imul g dX8_worth_149 ?_
        refine q_iload_n g 3 3 rfl dX8_worth_150 ?_
        obtain ⟨c151, h⟩ := h
        refine q_iadd g dX8_worth_151 ?_
        refine q_iconst g (1) dX8_worth_152 ?_
        obtain ⟨c153, h⟩ := h
        refine q_isub g dX8_worth_153 ?_
        obtain ⟨c154, h⟩ := h
        obtain ⟨e154, h⟩ := h
        refine q_iald g 2 rfl c154 e154 (by decide) dX8_worth_154 ?_
        exact q_iret g hF ⟨(m_sumShares (((6 * l1) + l3) - 1)), rfl, rfl, (r_m_sumShares _), h⟩ dX8_worth_155
      replace h := h.2
      rcases bs65 with bs65 | bs65
      · replace h := h.1 bs65
        refine q_tabIn g 175 109 r_l2 bs65 (by decide) (by decide) rfl (by decide) dX8_worth_65 ?_
        refine q_lv (lv' := [(5, .int (i32 l5))]) [5] rfl ?_
        exact s_X8_worth_175 g hR hX8 aX8_ups aX8_downs m_many aX8_row m_isSpent m_found aX8_sumMany aX8_sumShares aX8_sumSet aX8_taken aX8_restUp aX8_restDown m_fewest m_wishes aX8_wished aX8_far aX8_queue m_divided aX8_divisors aX8_least m_pairOne m_pairTwo m_sumUp m_sumDown m_sumMany m_sumShares r_m_sumMany r_m_sumShares Q hF l5 r_l5 h
      replace h := h.2
      rcases bs65 with bs65 | bs65
      · replace h := h.1 bs65
        refine q_tabIn g 175 110 r_l2 bs65 (by decide) (by decide) rfl (by decide) dX8_worth_65 ?_
        refine q_lv (lv' := [(5, .int (i32 l5))]) [5] rfl ?_
        exact s_X8_worth_175 g hR hX8 aX8_ups aX8_downs m_many aX8_row m_isSpent m_found aX8_sumMany aX8_sumShares aX8_sumSet aX8_taken aX8_restUp aX8_restDown m_fewest m_wishes aX8_wished aX8_far aX8_queue m_divided aX8_divisors aX8_least m_pairOne m_pairTwo m_sumUp m_sumDown m_sumMany m_sumShares r_m_sumMany r_m_sumShares Q hF l5 r_l5 h
      replace h := h.2
      rcases bs65 with bs65 | bs65
      · replace h := h.1 bs65
        refine q_tabIn g 175 111 r_l2 bs65 (by decide) (by decide) rfl (by decide) dX8_worth_65 ?_
        refine q_lv (lv' := [(5, .int (i32 l5))]) [5] rfl ?_
        exact s_X8_worth_175 g hR hX8 aX8_ups aX8_downs m_many aX8_row m_isSpent m_found aX8_sumMany aX8_sumShares aX8_sumSet aX8_taken aX8_restUp aX8_restDown m_fewest m_wishes aX8_wished aX8_far aX8_queue m_divided aX8_divisors aX8_least m_pairOne m_pairTwo m_sumUp m_sumDown m_sumMany m_sumShares r_m_sumMany r_m_sumShares Q hF l5 r_l5 h
      replace h := h.2
      rcases bs65 with bs65 | bs65
      · replace h := h.1 bs65
        refine q_tabIn g 175 112 r_l2 bs65 (by decide) (by decide) rfl (by decide) dX8_worth_65 ?_
        refine q_lv (lv' := [(5, .int (i32 l5))]) [5] rfl ?_
        exact s_X8_worth_175 g hR hX8 aX8_ups aX8_downs m_many aX8_row m_isSpent m_found aX8_sumMany aX8_sumShares aX8_sumSet aX8_taken aX8_restUp aX8_restDown m_fewest m_wishes aX8_wished aX8_far aX8_queue m_divided aX8_divisors aX8_least m_pairOne m_pairTwo m_sumUp m_sumDown m_sumMany m_sumShares r_m_sumMany r_m_sumShares Q hF l5 r_l5 h
      replace h := h.2
      rcases bs65 with bs65 | bs65
      · replace h := h.1 bs65
        refine q_tabIn g 175 113 r_l2 bs65 (by decide) (by decide) rfl (by decide) dX8_worth_65 ?_
        refine q_lv (lv' := [(5, .int (i32 l5))]) [5] rfl ?_
        exact s_X8_worth_175 g hR hX8 aX8_ups aX8_downs m_many aX8_row m_isSpent m_found aX8_sumMany aX8_sumShares aX8_sumSet aX8_taken aX8_restUp aX8_restDown m_fewest m_wishes aX8_wished aX8_far aX8_queue m_divided aX8_divisors aX8_least m_pairOne m_pairTwo m_sumUp m_sumDown m_sumMany m_sumShares r_m_sumMany r_m_sumShares Q hF l5 r_l5 h
      replace h := h.2
      rcases bs65 with bs65 | bs65
      · replace h := h.1 bs65
        refine q_tabIn g 175 114 r_l2 bs65 (by decide) (by decide) rfl (by decide) dX8_worth_65 ?_
        refine q_lv (lv' := [(5, .int (i32 l5))]) [5] rfl ?_
        exact s_X8_worth_175 g hR hX8 aX8_ups aX8_downs m_many aX8_row m_isSpent m_found aX8_sumMany aX8_sumShares aX8_sumSet aX8_taken aX8_restUp aX8_restDown m_fewest m_wishes aX8_wished aX8_far aX8_queue m_divided aX8_divisors aX8_least m_pairOne m_pairTwo m_sumUp m_sumDown m_sumMany m_sumShares r_m_sumMany r_m_sumShares Q hF l5 r_l5 h
      replace h := h.2
      replace h := h bs65
      refine q_tabIn g 167 115 r_l2 bs65 (by decide) (by decide) rfl (by decide) dX8_worth_65 ?_
      refine q_iload g 4 4 rfl dX8_worth_167 ?_
      exact q_iret g hF ⟨l4, rfl, rfl, r_l4, h⟩ dX8_worth_169
    replace h := h.2 b19
    refine q_iload g 4 4 rfl dX8_worth_22 ?_
    refine q_aload_n g 0 0 rfl dX8_worth_24 ?_
    refine q_get (C := RX8) (T := TX8) (N := 24) g 27 inX8 0 7 rfl rfl (by decide) wF_X8_27 rfl dX8_worth_25 ?_
    refine q_bipush g (6) (by decide) (by decide) dX8_worth_28 ?_
    refine q_iload_n g 1 1 rfl dX8_worth_30 ?_
    obtain ⟨c31, h⟩ := h
    refine q_imul g dX8_worth_31 ?_
    refine q_iload g 6 6 rfl dX8_worth_32 ?_
    obtain ⟨c34, h⟩ := h
    refine q_iadd g dX8_worth_34 ?_
    obtain ⟨c35, h⟩ := h
    obtain ⟨e35, h⟩ := h
    refine q_iald g 2 rfl c35 e35 (by decide) dX8_worth_35 ?_
    obtain ⟨c36, h⟩ := h
    refine q_iadd g dX8_worth_36 ?_
    refine q_topi c36 (fun x37 ex37 rx37 => ?_)
    replace h := h x37 ex37
    refine q_istore (lv' := [(4, .int (i32 x37)), (0, .ref hX8), (1, .int (i32 l1)), (2, .int (i32 l2)), (3, .int (i32 l3)), (5, .int (i32 l5)), (6, .int (i32 l6))]) g 4   (by decide) rfl dX8_worth_37 ?_
    refine q_iload g 5 5 rfl dX8_worth_39 ?_
    refine q_aload_n g 0 1 rfl dX8_worth_41 ?_
    refine q_get (C := RX8) (T := TX8) (N := 24) g 27 inX8 0 7 rfl rfl (by decide) wF_X8_27 rfl dX8_worth_42 ?_
    refine q_bipush g (6) (by decide) (by decide) dX8_worth_45 ?_
    refine q_iload_n g 1 2 rfl dX8_worth_47 ?_
    obtain ⟨c48, h⟩ := h
    refine q_imul g dX8_worth_48 ?_
    refine q_iload g 6 6 rfl dX8_worth_49 ?_
    obtain ⟨c51, h⟩ := h
    refine q_iadd g dX8_worth_51 ?_
    obtain ⟨c52, h⟩ := h
    obtain ⟨e52, h⟩ := h
    refine q_iald g 2 rfl c52 e52 (by decide) dX8_worth_52 ?_
    refine q_iconst g (2) dX8_worth_53 ?_
    refine q_irem g (r_m_sumShares _) (r32_lit _ (by decide)) (ne_of_pos (by decide)) dX8_worth_54 ?_
    obtain ⟨c55, h⟩ := h
    refine q_iadd g dX8_worth_55 ?_
    refine q_topi c55 (fun x56 ex56 rx56 => ?_)
    replace h := h x56 ex56
    refine q_istore (lv' := [(5, .int (i32 x56)), (4, .int (i32 x37)), (0, .ref hX8), (1, .int (i32 l1)), (2, .int (i32 l2)), (3, .int (i32 l3)), (6, .int (i32 l6))]) g 5   (by decide) rfl dX8_worth_56 ?_
    obtain ⟨c58, h⟩ := h
    refine q_iinc (lv' := [(6, .int (i32 (l6 + 1))), (5, .int (i32 x56)), (4, .int (i32 x37)), (0, .ref hX8), (1, .int (i32 l1)), (2, .int (i32 l2)), (3, .int (i32 l3))]) g 6 6 1 (by decide) rfl rfl dX8_worth_58 ?_
    refine q_goto g (-45) 16 (by decide) dX8_worth_61 ?_
    refine q_lv (lv' := [(0, .ref hX8), (1, .int (i32 l1)), (2, .int (i32 l2)), (3, .int (i32 l3)), (4, .int (i32 x37)), (5, .int (i32 x56)), (6, .int (i32 (l6 + 1)))]) [3, 4, 5, 6, 2, 1, 0] rfl ?_
    exact ih l1 l2 l3 x37 x56 (l6 + 1) r_l1 r_l2 r_l3 rx37 rx56 c58 h
def wp_X8_worth (Q : Int → Prop) (m_sumMany : Int → Int) (m_sumShares : Int → Int) (l1 : Int) (l2 : Int) : Prop := (0 ≤ l1 ∧ l1 < 2000 ∧ ∀ x6 : Int, x6 = (m_sumMany l1) → (∃ n0 : Nat, wp_X8_worth_16 Q m_sumMany m_sumShares n0 l1 l2 x6 0 0 0))
set_option maxHeartbeats 4000000 in
set_option maxRecDepth 100000 in
theorem c_X8_worth (l : Launch) (D : va_G) (cI cJ : ClassId) (zt : Nat) (hX8 : Nat) (aX8_ups : Nat) (aX8_downs : Nat) (m_many : Int) (aX8_row : Nat) (m_isSpent : Int) (m_found : Int) (aX8_sumMany : Nat) (aX8_sumShares : Nat) (aX8_sumSet : Nat) (aX8_taken : Nat) (aX8_restUp : Nat) (aX8_restDown : Nat) (m_fewest : Int) (m_wishes : Int) (aX8_wished : Nat) (aX8_far : Nat) (aX8_queue : Nat) (m_divided : Int) (aX8_divisors : Nat) (aX8_least : Nat) (m_pairOne : Int) (m_pairTwo : Int) (m_sumUp : Int) (m_sumDown : Int) (m_sumMany : Int → Int) (m_sumShares : Int → Int) (l1 : Int) (l2 : Int) (Q : Int → Prop) (r_m_sumMany : rr32 m_sumMany) (r_m_sumShares : rr32 m_sumShares) (r_l1 : r32 l1) (r_l2 : r32 l2) (h : wp_X8_worth Q m_sumMany m_sumShares l1 l2) : Ct l D cI cJ zt yX8_worth cX8_worth 7 (some .int) 1 0 0 [.ref hX8, .int (i32 l1), .int (i32 l2)] [(hX8, .inr (7, [.ref aX8_ups, .ref aX8_downs, .int (i32 m_many), .ref aX8_row, .int (i32 m_isSpent), .int (i32 m_found), .ref aX8_sumMany, .ref aX8_sumShares, .ref aX8_sumSet, .ref aX8_taken, .ref aX8_restUp, .ref aX8_restDown, .int (i32 m_fewest), .int (i32 m_wishes), .ref aX8_wished, .ref aX8_far, .ref aX8_queue, .int (i32 m_divided), .ref aX8_divisors, .ref aX8_least, .long (i64 m_pairOne), .long (i64 m_pairTwo), .long (i64 m_sumUp), .long (i64 m_sumDown)])), (aX8_sumMany, aI cI 2000 m_sumMany), (aX8_sumShares, aI cI 12000 m_sumShares)] (po_X8_worth cI cJ hX8 aX8_ups aX8_downs m_many aX8_row m_isSpent m_found aX8_sumMany aX8_sumShares aX8_sumSet aX8_taken aX8_restUp aX8_restDown m_fewest m_wishes aX8_wished aX8_far aX8_queue m_divided aX8_divisors aX8_least m_pairOne m_pairTwo m_sumUp m_sumDown m_sumMany m_sumShares Q) := by
  refine ct_of (by decide +kernel) (Nat.le_of_ble_eq_true rfl) (fun X hl hDD hcI hcJ hzt hR hF hnm g => ?_)
  subst hl; subst hDD; subst hcI; subst hcJ; subst hzt
  show Wat X 0 0 0 [(0, .ref hX8), (1, .int (i32 l1)), (2, .int (i32 l2))] [] [(hX8, .inr (7, [.ref aX8_ups, .ref aX8_downs, .int (i32 m_many), .ref aX8_row, .int (i32 m_isSpent), .int (i32 m_found), .ref aX8_sumMany, .ref aX8_sumShares, .ref aX8_sumSet, .ref aX8_taken, .ref aX8_restUp, .ref aX8_restDown, .int (i32 m_fewest), .int (i32 m_wishes), .ref aX8_wished, .ref aX8_far, .ref aX8_queue, .int (i32 m_divided), .ref aX8_divisors, .ref aX8_least, .long (i64 m_pairOne), .long (i64 m_pairTwo), .long (i64 m_sumUp), .long (i64 m_sumDown)])), (aX8_sumMany, aI X.cI 2000 m_sumMany), (aX8_sumShares, aI X.cI 12000 m_sumShares)]
  replace g : Gd X cX8_worth RX8 (some .int) 7 := g
  rw [wp_X8_worth] at h
  refine q_aload_n g 0 0 rfl dX8_worth_0 ?_
  refine q_get (C := RX8) (T := TX8) (N := 24) g 24 inX8 0 6 rfl rfl (by decide) wF_X8_24 rfl dX8_worth_1 ?_
  refine q_iload_n g 1 1 rfl dX8_worth_4 ?_
  obtain ⟨c5, h⟩ := h
  obtain ⟨e5, h⟩ := h
  refine q_iald g 1 rfl c5 e5 (by decide) dX8_worth_5 ?_
  refine q_topi (r_m_sumMany _) (fun x6 ex6 rx6 => ?_)
  replace h := h x6 ex6
  refine q_istore_n (lv' := [(3, .int (i32 x6)), (0, .ref hX8), (1, .int (i32 l1)), (2, .int (i32 l2))]) g 3 3 rfl (by decide) rfl dX8_worth_6 ?_
  refine q_iconst g (0) dX8_worth_7 ?_
  refine q_istore (lv' := [(4, .int (i32 0)), (3, .int (i32 x6)), (0, .ref hX8), (1, .int (i32 l1)), (2, .int (i32 l2))]) g 4   (by decide) rfl dX8_worth_8 ?_
  refine q_iconst g (0) dX8_worth_10 ?_
  refine q_istore (lv' := [(5, .int (i32 0)), (4, .int (i32 0)), (3, .int (i32 x6)), (0, .ref hX8), (1, .int (i32 l1)), (2, .int (i32 l2))]) g 5   (by decide) rfl dX8_worth_11 ?_
  refine q_iconst g (0) dX8_worth_13 ?_
  refine q_istore (lv' := [(6, .int (i32 0)), (5, .int (i32 0)), (4, .int (i32 0)), (3, .int (i32 x6)), (0, .ref hX8), (1, .int (i32 l1)), (2, .int (i32 l2))]) g 6   (by decide) rfl dX8_worth_14 ?_
  refine q_lv (lv' := [(0, .ref hX8), (1, .int (i32 l1)), (2, .int (i32 l2)), (3, .int (i32 x6)), (4, .int (i32 0)), (5, .int (i32 0)), (6, .int (i32 0))]) [4, 5, 6, 3, 2, 1, 0] rfl ?_
  obtain ⟨n0, h⟩ := h
  exact s_X8_worth_16 g hR hX8 aX8_ups aX8_downs m_many aX8_row m_isSpent m_found aX8_sumMany aX8_sumShares aX8_sumSet aX8_taken aX8_restUp aX8_restDown m_fewest m_wishes aX8_wished aX8_far aX8_queue m_divided aX8_divisors aX8_least m_pairOne m_pairTwo m_sumUp m_sumDown m_sumMany m_sumShares r_m_sumMany r_m_sumShares Q hF n0 l1 l2 x6 0 0 0 r_l1 r_l2 rx6 (r32_lit _ (by decide)) (r32_lit _ (by decide)) (r32_lit _ (by decide)) h
theorem dX8_isBetter_0 : decode cX8_isBetter 0 = .ok (.iconst 0, 1) := by decide +kernel
theorem dX8_isBetter_1 : decode cX8_isBetter 1 = .ok (.istore_n 3, 1) := by decide +kernel
theorem dX8_isBetter_2 : decode cX8_isBetter 2 = .ok (.iload_n 3, 1) := by decide +kernel
theorem dX8_isBetter_3 : decode cX8_isBetter 3 = .ok (.aload_n 0, 1) := by decide +kernel
theorem dX8_isBetter_4 : decode cX8_isBetter 4 = .ok (.getfield 157, 3) := by decide +kernel
theorem dX8_isBetter_7 : decode cX8_isBetter 7 = .ok (.if_icmp .ge 55, 3) := by decide +kernel
theorem dX8_isBetter_10 : decode cX8_isBetter 10 = .ok (.aload_n 0, 1) := by decide +kernel
theorem dX8_isBetter_11 : decode cX8_isBetter 11 = .ok (.iload_n 1, 1) := by decide +kernel
theorem dX8_isBetter_12 : decode cX8_isBetter 12 = .ok (.aload_n 0, 1) := by decide +kernel
theorem dX8_isBetter_13 : decode cX8_isBetter 13 = .ok (.getfield 42, 3) := by decide +kernel
theorem dX8_isBetter_16 : decode cX8_isBetter 16 = .ok (.iload_n 3, 1) := by decide +kernel
theorem dX8_isBetter_17 : decode cX8_isBetter 17 = .ok (.iaload, 1) := by decide +kernel
theorem dX8_isBetter_18 : decode cX8_isBetter 18 = .ok (.invokevirtual 162, 3) := by decide +kernel
theorem dX8_isBetter_21 : decode cX8_isBetter 21 = .ok (.istore 4, 2) := by decide +kernel
theorem dX8_isBetter_23 : decode cX8_isBetter 23 = .ok (.aload_n 0, 1) := by decide +kernel
theorem dX8_isBetter_24 : decode cX8_isBetter 24 = .ok (.iload_n 2, 1) := by decide +kernel
theorem dX8_isBetter_25 : decode cX8_isBetter 25 = .ok (.aload_n 0, 1) := by decide +kernel
theorem dX8_isBetter_26 : decode cX8_isBetter 26 = .ok (.getfield 42, 3) := by decide +kernel
theorem dX8_isBetter_29 : decode cX8_isBetter 29 = .ok (.iload_n 3, 1) := by decide +kernel
theorem dX8_isBetter_30 : decode cX8_isBetter 30 = .ok (.iaload, 1) := by decide +kernel
theorem dX8_isBetter_31 : decode cX8_isBetter 31 = .ok (.invokevirtual 162, 3) := by decide +kernel
theorem dX8_isBetter_34 : decode cX8_isBetter 34 = .ok (.istore 5, 2) := by decide +kernel
theorem dX8_isBetter_36 : decode cX8_isBetter 36 = .ok (.iload 4, 2) := by decide +kernel
theorem dX8_isBetter_38 : decode cX8_isBetter 38 = .ok (.iload 5, 2) := by decide +kernel
theorem dX8_isBetter_40 : decode cX8_isBetter 40 = .ok (.if_icmp .eq 16, 3) := by decide +kernel
theorem dX8_isBetter_43 : decode cX8_isBetter 43 = .ok (.iload 4, 2) := by decide +kernel
theorem dX8_isBetter_45 : decode cX8_isBetter 45 = .ok (.iload 5, 2) := by decide +kernel
theorem dX8_isBetter_47 : decode cX8_isBetter 47 = .ok (.if_icmp .ge 7, 3) := by decide +kernel
theorem dX8_isBetter_50 : decode cX8_isBetter 50 = .ok (.iconst 1, 1) := by decide +kernel
theorem dX8_isBetter_51 : decode cX8_isBetter 51 = .ok (.goto 4, 3) := by decide +kernel
theorem dX8_isBetter_54 : decode cX8_isBetter 54 = .ok (.iconst 0, 1) := by decide +kernel
theorem dX8_isBetter_55 : decode cX8_isBetter 55 = .ok (.ireturn, 1) := by decide +kernel
theorem dX8_isBetter_56 : decode cX8_isBetter 56 = .ok (.iinc 3 1, 3) := by decide +kernel
theorem dX8_isBetter_59 : decode cX8_isBetter 59 = .ok (.goto (-57), 3) := by decide +kernel
theorem dX8_isBetter_62 : decode cX8_isBetter 62 = .ok (.iconst 0, 1) := by decide +kernel
theorem dX8_isBetter_63 : decode cX8_isBetter 63 = .ok (.ireturn, 1) := by decide +kernel
abbrev po_X8_isBetter (cI cJ : ClassId) (hX8 : Nat) (aX8_ups : Nat) (aX8_downs : Nat) (m_many : Int) (aX8_row : Nat) (m_isSpent : Int) (m_found : Int) (aX8_sumMany : Nat) (aX8_sumShares : Nat) (aX8_sumSet : Nat) (aX8_taken : Nat) (aX8_restUp : Nat) (aX8_restDown : Nat) (m_fewest : Int) (m_wishes : Int) (aX8_wished : Nat) (aX8_far : Nat) (aX8_queue : Nat) (m_divided : Int) (aX8_divisors : Nat) (aX8_least : Nat) (m_pairOne : Int) (m_pairTwo : Int) (m_sumUp : Int) (m_sumDown : Int) (m_sumMany : Int → Int) (m_sumShares : Int → Int) (m_wished : Int → Int) (Q : Int → Prop) : Option Value → va_W → Prop := fun rv w1 => ∃ (r0 : Int), rv = some (.int (i32 r0)) ∧ w1 = [(hX8, .inr (7, [.ref aX8_ups, .ref aX8_downs, .int (i32 m_many), .ref aX8_row, .int (i32 m_isSpent), .int (i32 m_found), .ref aX8_sumMany, .ref aX8_sumShares, .ref aX8_sumSet, .ref aX8_taken, .ref aX8_restUp, .ref aX8_restDown, .int (i32 m_fewest), .int (i32 m_wishes), .ref aX8_wished, .ref aX8_far, .ref aX8_queue, .int (i32 m_divided), .ref aX8_divisors, .ref aX8_least, .long (i64 m_pairOne), .long (i64 m_pairTwo), .long (i64 m_sumUp), .long (i64 m_sumDown)])), (aX8_sumMany, aI cI 2000 m_sumMany), (aX8_sumShares, aI cI 12000 m_sumShares), (aX8_wished, aI cI 8 m_wished)] ∧ r32 r0 ∧ Q r0
def wp_X8_isBetter_55 (Q : Int → Prop) (m_sumMany : Int → Int) (m_sumShares : Int → Int) (m_wishes : Int) (m_wished : Int → Int) (k0 : Int) : Prop := ((k0 = 0 ∨ k0 = 1) ∧ Q k0)
set_option maxHeartbeats 4000000 in
set_option maxRecDepth 100000 in
theorem s_X8_isBetter_55 {X : Cx} (g : Gd X cX8_isBetter RX8 (some .boolean) 6) (hR : X.R = rmL 2 0 0) (hX8 : Nat) (aX8_ups : Nat) (aX8_downs : Nat) (m_many : Int) (aX8_row : Nat) (m_isSpent : Int) (m_found : Int) (aX8_sumMany : Nat) (aX8_sumShares : Nat) (aX8_sumSet : Nat) (aX8_taken : Nat) (aX8_restUp : Nat) (aX8_restDown : Nat) (m_fewest : Int) (aX8_wished : Nat) (aX8_far : Nat) (aX8_queue : Nat) (m_divided : Int) (aX8_divisors : Nat) (aX8_least : Nat) (m_pairOne : Int) (m_pairTwo : Int) (m_sumUp : Int) (m_sumDown : Int) (m_sumMany : Int → Int) (m_sumShares : Int → Int) (m_wishes : Int) (m_wished : Int → Int) (r_m_sumMany : rr32 m_sumMany) (r_m_sumShares : rr32 m_sumShares) (r_m_wishes : r32 m_wishes) (r_m_wished : rr32 m_wished) (Q : Int → Prop) (hF : FQ X 0 0 (po_X8_isBetter X.cI X.cJ hX8 aX8_ups aX8_downs m_many aX8_row m_isSpent m_found aX8_sumMany aX8_sumShares aX8_sumSet aX8_taken aX8_restUp aX8_restDown m_fewest m_wishes aX8_wished aX8_far aX8_queue m_divided aX8_divisors aX8_least m_pairOne m_pairTwo m_sumUp m_sumDown m_sumMany m_sumShares m_wished Q)) : ∀ (k0 : Int), r32 k0 → wp_X8_isBetter_55 Q m_sumMany m_sumShares m_wishes m_wished k0 → Wat X 0 0 55 [] [.int (i32 k0)] [(hX8, .inr (7, [.ref aX8_ups, .ref aX8_downs, .int (i32 m_many), .ref aX8_row, .int (i32 m_isSpent), .int (i32 m_found), .ref aX8_sumMany, .ref aX8_sumShares, .ref aX8_sumSet, .ref aX8_taken, .ref aX8_restUp, .ref aX8_restDown, .int (i32 m_fewest), .int (i32 m_wishes), .ref aX8_wished, .ref aX8_far, .ref aX8_queue, .int (i32 m_divided), .ref aX8_divisors, .ref aX8_least, .long (i64 m_pairOne), .long (i64 m_pairTwo), .long (i64 m_sumUp), .long (i64 m_sumDown)])), (aX8_sumMany, aI X.cI 2000 m_sumMany), (aX8_sumShares, aI X.cI 12000 m_sumShares), (aX8_wished, aI X.cI 8 m_wished)] := by
  intro k0 r_k0 h
  rw [wp_X8_isBetter_55] at h
  obtain ⟨z55, h⟩ := h
  exact q_zret g hF z55 ⟨k0, rfl, rfl, r_k0, h⟩ dX8_isBetter_55
def wp_X8_isBetter_2 (Q : Int → Prop) (m_sumMany : Int → Int) (m_sumShares : Int → Int) (m_wishes : Int) (m_wished : Int → Int) : Nat → Int → Int → Int → Prop
  | 0, _, _, _ => False
  | n + 1, l1, l2, l3 => ((m_wishes ≤ l3 → Q 0) ∧
  (¬ (m_wishes ≤ l3) → (0 ≤ l3 ∧ l3 < 8 ∧ wp_X8_worth (fun (x18 : Int) => (0 ≤ l3 ∧ l3 < 8 ∧ wp_X8_worth (fun (x31 : Int) => ((x18 = x31 → (r32 (l3 + 1) ∧ wp_X8_isBetter_2 Q m_sumMany m_sumShares m_wishes m_wished n l1 l2 (l3 + 1))) ∧
  (¬ (x18 = x31) → ((x31 ≤ x18 → wp_X8_isBetter_55 Q m_sumMany m_sumShares m_wishes m_wished 0) ∧
  (¬ (x31 ≤ x18) → wp_X8_isBetter_55 Q m_sumMany m_sumShares m_wishes m_wished 1))))) m_sumMany m_sumShares l2 (m_wished l3))) m_sumMany m_sumShares l1 (m_wished l3))))
set_option maxHeartbeats 4000000 in
set_option maxRecDepth 100000 in
theorem s_X8_isBetter_2 {X : Cx} (g : Gd X cX8_isBetter RX8 (some .boolean) 6) (hR : X.R = rmL 2 0 0) (hX8 : Nat) (aX8_ups : Nat) (aX8_downs : Nat) (m_many : Int) (aX8_row : Nat) (m_isSpent : Int) (m_found : Int) (aX8_sumMany : Nat) (aX8_sumShares : Nat) (aX8_sumSet : Nat) (aX8_taken : Nat) (aX8_restUp : Nat) (aX8_restDown : Nat) (m_fewest : Int) (aX8_wished : Nat) (aX8_far : Nat) (aX8_queue : Nat) (m_divided : Int) (aX8_divisors : Nat) (aX8_least : Nat) (m_pairOne : Int) (m_pairTwo : Int) (m_sumUp : Int) (m_sumDown : Int) (m_sumMany : Int → Int) (m_sumShares : Int → Int) (m_wishes : Int) (m_wished : Int → Int) (r_m_sumMany : rr32 m_sumMany) (r_m_sumShares : rr32 m_sumShares) (r_m_wishes : r32 m_wishes) (r_m_wished : rr32 m_wished) (Q : Int → Prop) (hF : FQ X 0 0 (po_X8_isBetter X.cI X.cJ hX8 aX8_ups aX8_downs m_many aX8_row m_isSpent m_found aX8_sumMany aX8_sumShares aX8_sumSet aX8_taken aX8_restUp aX8_restDown m_fewest m_wishes aX8_wished aX8_far aX8_queue m_divided aX8_divisors aX8_least m_pairOne m_pairTwo m_sumUp m_sumDown m_sumMany m_sumShares m_wished Q)) : ∀ (n : Nat) (l1 : Int) (l2 : Int) (l3 : Int), r32 l1 → r32 l2 → r32 l3 → wp_X8_isBetter_2 Q m_sumMany m_sumShares m_wishes m_wished n l1 l2 l3 → Wat X 0 0 2 [(0, .ref hX8), (1, .int (i32 l1)), (2, .int (i32 l2)), (3, .int (i32 l3))] [] [(hX8, .inr (7, [.ref aX8_ups, .ref aX8_downs, .int (i32 m_many), .ref aX8_row, .int (i32 m_isSpent), .int (i32 m_found), .ref aX8_sumMany, .ref aX8_sumShares, .ref aX8_sumSet, .ref aX8_taken, .ref aX8_restUp, .ref aX8_restDown, .int (i32 m_fewest), .int (i32 m_wishes), .ref aX8_wished, .ref aX8_far, .ref aX8_queue, .int (i32 m_divided), .ref aX8_divisors, .ref aX8_least, .long (i64 m_pairOne), .long (i64 m_pairTwo), .long (i64 m_sumUp), .long (i64 m_sumDown)])), (aX8_sumMany, aI X.cI 2000 m_sumMany), (aX8_sumShares, aI X.cI 12000 m_sumShares), (aX8_wished, aI X.cI 8 m_wished)] := by
  intro n
  induction n with
  | zero => intro l1 l2 l3 r_l1 r_l2 r_l3 h; exact False.elim h
  | succ n ih =>
    intro l1 l2 l3 r_l1 r_l2 r_l3 h
    rw [wp_X8_isBetter_2] at h
    refine q_iload_n g 3 3 rfl dX8_isBetter_2 ?_
    refine q_aload_n g 0 0 rfl dX8_isBetter_3 ?_
    refine q_get (C := RX8) (T := TX8) (N := 24) g 157 inX8 0 13 rfl rfl (by decide) wF_X8_157 rfl dX8_isBetter_4 ?_
    refine q_icmp_ge g (55) 62 r_l3 r_m_wishes (by decide) dX8_isBetter_7 (fun b7 => ?_) (fun b7 => ?_)
    · replace h := h.1 b7
      refine q_iconst g (0) dX8_isBetter_62 ?_
      exact q_zret g hF (by decide) ⟨0, rfl, rfl, (r32_lit _ (by decide)), h⟩ dX8_isBetter_63
    replace h := h.2 b7
    refine q_aload_n g 0 0 rfl dX8_isBetter_10 ?_
    refine q_iload_n g 1 1 rfl dX8_isBetter_11 ?_
    refine q_aload_n g 0 0 rfl dX8_isBetter_12 ?_
    refine q_get (C := RX8) (T := TX8) (N := 24) g 42 inX8 0 14 rfl rfl (by decide) wF_X8_42 rfl dX8_isBetter_13 ?_
    refine q_iload_n g 3 3 rfl dX8_isBetter_16 ?_
    obtain ⟨c17, h⟩ := h
    obtain ⟨e17, h⟩ := h
    refine q_iald g 3 rfl c17 e17 (by decide) dX8_isBetter_17 ?_
    refine q_callV (lev := 1) (mc := 0) (ms := 0) g 162 (c_X8_worth X.l X.D X.cI X.cJ X.zt hX8 aX8_ups aX8_downs m_many aX8_row m_isSpent m_found aX8_sumMany aX8_sumShares aX8_sumSet aX8_taken aX8_restUp aX8_restDown m_fewest m_wishes aX8_wished aX8_far aX8_queue m_divided aX8_divisors aX8_least m_pairOne m_pairTwo m_sumUp m_sumDown m_sumMany m_sumShares l1 (m_wished l3) _ r_m_sumMany r_m_sumShares r_l1 (r_m_wished _) h) (wr := [(aX8_wished, aI X.cI 8 m_wished)]) [0, 1, 2] [3] rfl rfl rfl (by decide) (by decide) (by decide) (ci := 7) rfl rfl rfl wM_X8_162 wI_X8_worth wS_X8_worth wZ_X8 wC_X8_worth 2 rfl (by decide +kernel) (by rw [hR]; exact ⟨by show 1 + 1 ≤ 2; omega, by show 8 + (7 + 11) + 100 * 1 ≤ 100 * 2; omega⟩) (by rw [hR]; exact ⟨Nat.le_refl _, Nat.le_refl _⟩) (Nat.le_of_ble_eq_true rfl) rfl dX8_isBetter_18 (fun rv w1 hq => ?_)
    obtain ⟨x18, rfl, rfl, rx18, h⟩ := hq
    refine q_ws (ws' := [(hX8, .inr (7, [.ref aX8_ups, .ref aX8_downs, .int (i32 m_many), .ref aX8_row, .int (i32 m_isSpent), .int (i32 m_found), .ref aX8_sumMany, .ref aX8_sumShares, .ref aX8_sumSet, .ref aX8_taken, .ref aX8_restUp, .ref aX8_restDown, .int (i32 m_fewest), .int (i32 m_wishes), .ref aX8_wished, .ref aX8_far, .ref aX8_queue, .int (i32 m_divided), .ref aX8_divisors, .ref aX8_least, .long (i64 m_pairOne), .long (i64 m_pairTwo), .long (i64 m_sumUp), .long (i64 m_sumDown)])), (aX8_sumMany, aI X.cI 2000 m_sumMany), (aX8_sumShares, aI X.cI 12000 m_sumShares), (aX8_wished, aI X.cI 8 m_wished)]) [1, 2, 3, 0] (by decide) rfl rfl ?_
    show Wat X 0 0 21 [(0, .ref hX8), (1, .int (i32 l1)), (2, .int (i32 l2)), (3, .int (i32 l3))] [.int (i32 x18)] [(hX8, .inr (7, [.ref aX8_ups, .ref aX8_downs, .int (i32 m_many), .ref aX8_row, .int (i32 m_isSpent), .int (i32 m_found), .ref aX8_sumMany, .ref aX8_sumShares, .ref aX8_sumSet, .ref aX8_taken, .ref aX8_restUp, .ref aX8_restDown, .int (i32 m_fewest), .int (i32 m_wishes), .ref aX8_wished, .ref aX8_far, .ref aX8_queue, .int (i32 m_divided), .ref aX8_divisors, .ref aX8_least, .long (i64 m_pairOne), .long (i64 m_pairTwo), .long (i64 m_sumUp), .long (i64 m_sumDown)])), (aX8_sumMany, aI X.cI 2000 m_sumMany), (aX8_sumShares, aI X.cI 12000 m_sumShares), (aX8_wished, aI X.cI 8 m_wished)]
    refine q_istore (lv' := [(4, .int (i32 x18)), (0, .ref hX8), (1, .int (i32 l1)), (2, .int (i32 l2)), (3, .int (i32 l3))]) g 4   (by decide) rfl dX8_isBetter_21 ?_
    refine q_aload_n g 0 1 rfl dX8_isBetter_23 ?_
    refine q_iload_n g 2 3 rfl dX8_isBetter_24 ?_
    refine q_aload_n g 0 1 rfl dX8_isBetter_25 ?_
    refine q_get (C := RX8) (T := TX8) (N := 24) g 42 inX8 0 14 rfl rfl (by decide) wF_X8_42 rfl dX8_isBetter_26 ?_
    refine q_iload_n g 3 4 rfl dX8_isBetter_29 ?_
    obtain ⟨c30, h⟩ := h
    obtain ⟨e30, h⟩ := h
    refine q_iald g 3 rfl c30 e30 (by decide) dX8_isBetter_30 ?_
    refine q_callV (lev := 1) (mc := 0) (ms := 0) g 162 (c_X8_worth X.l X.D X.cI X.cJ X.zt hX8 aX8_ups aX8_downs m_many aX8_row m_isSpent m_found aX8_sumMany aX8_sumShares aX8_sumSet aX8_taken aX8_restUp aX8_restDown m_fewest m_wishes aX8_wished aX8_far aX8_queue m_divided aX8_divisors aX8_least m_pairOne m_pairTwo m_sumUp m_sumDown m_sumMany m_sumShares l2 (m_wished l3) _ r_m_sumMany r_m_sumShares r_l2 (r_m_wished _) h) (wr := [(aX8_wished, aI X.cI 8 m_wished)]) [0, 1, 2] [3] rfl rfl rfl (by decide) (by decide) (by decide) (ci := 7) rfl rfl rfl wM_X8_162 wI_X8_worth wS_X8_worth wZ_X8 wC_X8_worth 2 rfl (by decide +kernel) (by rw [hR]; exact ⟨by show 1 + 1 ≤ 2; omega, by show 8 + (7 + 11) + 100 * 1 ≤ 100 * 2; omega⟩) (by rw [hR]; exact ⟨Nat.le_refl _, Nat.le_refl _⟩) (Nat.le_of_ble_eq_true rfl) rfl dX8_isBetter_31 (fun rv w1 hq => ?_)
    obtain ⟨x31, rfl, rfl, rx31, h⟩ := hq
    refine q_ws (ws' := [(hX8, .inr (7, [.ref aX8_ups, .ref aX8_downs, .int (i32 m_many), .ref aX8_row, .int (i32 m_isSpent), .int (i32 m_found), .ref aX8_sumMany, .ref aX8_sumShares, .ref aX8_sumSet, .ref aX8_taken, .ref aX8_restUp, .ref aX8_restDown, .int (i32 m_fewest), .int (i32 m_wishes), .ref aX8_wished, .ref aX8_far, .ref aX8_queue, .int (i32 m_divided), .ref aX8_divisors, .ref aX8_least, .long (i64 m_pairOne), .long (i64 m_pairTwo), .long (i64 m_sumUp), .long (i64 m_sumDown)])), (aX8_sumMany, aI X.cI 2000 m_sumMany), (aX8_sumShares, aI X.cI 12000 m_sumShares), (aX8_wished, aI X.cI 8 m_wished)]) [1, 2, 3, 0] (by decide) rfl rfl ?_
    show Wat X 0 0 34 [(4, .int (i32 x18)), (0, .ref hX8), (1, .int (i32 l1)), (2, .int (i32 l2)), (3, .int (i32 l3))] [.int (i32 x31)] [(hX8, .inr (7, [.ref aX8_ups, .ref aX8_downs, .int (i32 m_many), .ref aX8_row, .int (i32 m_isSpent), .int (i32 m_found), .ref aX8_sumMany, .ref aX8_sumShares, .ref aX8_sumSet, .ref aX8_taken, .ref aX8_restUp, .ref aX8_restDown, .int (i32 m_fewest), .int (i32 m_wishes), .ref aX8_wished, .ref aX8_far, .ref aX8_queue, .int (i32 m_divided), .ref aX8_divisors, .ref aX8_least, .long (i64 m_pairOne), .long (i64 m_pairTwo), .long (i64 m_sumUp), .long (i64 m_sumDown)])), (aX8_sumMany, aI X.cI 2000 m_sumMany), (aX8_sumShares, aI X.cI 12000 m_sumShares), (aX8_wished, aI X.cI 8 m_wished)]
    refine q_istore (lv' := [(5, .int (i32 x31)), (4, .int (i32 x18)), (0, .ref hX8), (1, .int (i32 l1)), (2, .int (i32 l2)), (3, .int (i32 l3))]) g 5   (by decide) rfl dX8_isBetter_34 ?_
    refine q_iload g 4 1 rfl dX8_isBetter_36 ?_
    refine q_iload g 5 0 rfl dX8_isBetter_38 ?_
    refine q_icmp_eq g (16) 56 rx18 rx31 (by decide) dX8_isBetter_40 (fun b40 => ?_) (fun b40 => ?_)
    · replace h := h.1 b40
      obtain ⟨c56, h⟩ := h
      refine q_iinc (lv' := [(3, .int (i32 (l3 + 1))), (5, .int (i32 x31)), (4, .int (i32 x18)), (0, .ref hX8), (1, .int (i32 l1)), (2, .int (i32 l2))]) g 3 5 1 (by decide) rfl rfl dX8_isBetter_56 ?_
      refine q_goto g (-57) 2 (by decide) dX8_isBetter_59 ?_
      refine q_lv (lv' := [(0, .ref hX8), (1, .int (i32 l1)), (2, .int (i32 l2)), (3, .int (i32 (l3 + 1)))]) [3, 4, 5, 0] rfl ?_
      exact ih l1 l2 (l3 + 1) r_l1 r_l2 c56 h
    replace h := h.2 b40
    refine q_iload g 4 1 rfl dX8_isBetter_43 ?_
    refine q_iload g 5 0 rfl dX8_isBetter_45 ?_
    refine q_icmp_ge g (7) 54 rx18 rx31 (by decide) dX8_isBetter_47 (fun b47 => ?_) (fun b47 => ?_)
    · replace h := h.1 b47
      refine q_iconst g (0) dX8_isBetter_54 ?_
      refine q_lv (lv' := []) [] rfl ?_
      exact s_X8_isBetter_55 g hR hX8 aX8_ups aX8_downs m_many aX8_row m_isSpent m_found aX8_sumMany aX8_sumShares aX8_sumSet aX8_taken aX8_restUp aX8_restDown m_fewest aX8_wished aX8_far aX8_queue m_divided aX8_divisors aX8_least m_pairOne m_pairTwo m_sumUp m_sumDown m_sumMany m_sumShares m_wishes m_wished r_m_sumMany r_m_sumShares r_m_wishes r_m_wished Q hF 0 (r32_lit _ (by decide)) h
    replace h := h.2 b47
    refine q_iconst g (1) dX8_isBetter_50 ?_
    refine q_goto g (4) 55 (by decide) dX8_isBetter_51 ?_
    refine q_lv (lv' := []) [] rfl ?_
    exact s_X8_isBetter_55 g hR hX8 aX8_ups aX8_downs m_many aX8_row m_isSpent m_found aX8_sumMany aX8_sumShares aX8_sumSet aX8_taken aX8_restUp aX8_restDown m_fewest aX8_wished aX8_far aX8_queue m_divided aX8_divisors aX8_least m_pairOne m_pairTwo m_sumUp m_sumDown m_sumMany m_sumShares m_wishes m_wished r_m_sumMany r_m_sumShares r_m_wishes r_m_wished Q hF 1 (r32_lit _ (by decide)) h
def wp_X8_isBetter (Q : Int → Prop) (m_sumMany : Int → Int) (m_sumShares : Int → Int) (m_wishes : Int) (m_wished : Int → Int) (l1 : Int) (l2 : Int) : Prop := (∃ n0 : Nat, wp_X8_isBetter_2 Q m_sumMany m_sumShares m_wishes m_wished n0 l1 l2 0)
set_option maxHeartbeats 4000000 in
set_option maxRecDepth 100000 in
theorem c_X8_isBetter (l : Launch) (D : va_G) (cI cJ : ClassId) (zt : Nat) (hX8 : Nat) (aX8_ups : Nat) (aX8_downs : Nat) (m_many : Int) (aX8_row : Nat) (m_isSpent : Int) (m_found : Int) (aX8_sumMany : Nat) (aX8_sumShares : Nat) (aX8_sumSet : Nat) (aX8_taken : Nat) (aX8_restUp : Nat) (aX8_restDown : Nat) (m_fewest : Int) (m_wishes : Int) (aX8_wished : Nat) (aX8_far : Nat) (aX8_queue : Nat) (m_divided : Int) (aX8_divisors : Nat) (aX8_least : Nat) (m_pairOne : Int) (m_pairTwo : Int) (m_sumUp : Int) (m_sumDown : Int) (m_sumMany : Int → Int) (m_sumShares : Int → Int) (m_wished : Int → Int) (l1 : Int) (l2 : Int) (Q : Int → Prop) (r_m_sumMany : rr32 m_sumMany) (r_m_sumShares : rr32 m_sumShares) (r_m_wishes : r32 m_wishes) (r_m_wished : rr32 m_wished) (r_l1 : r32 l1) (r_l2 : r32 l2) (h : wp_X8_isBetter Q m_sumMany m_sumShares m_wishes m_wished l1 l2) : Ct l D cI cJ zt yX8_isBetter cX8_isBetter 6 (some .boolean) 2 0 0 [.ref hX8, .int (i32 l1), .int (i32 l2)] [(hX8, .inr (7, [.ref aX8_ups, .ref aX8_downs, .int (i32 m_many), .ref aX8_row, .int (i32 m_isSpent), .int (i32 m_found), .ref aX8_sumMany, .ref aX8_sumShares, .ref aX8_sumSet, .ref aX8_taken, .ref aX8_restUp, .ref aX8_restDown, .int (i32 m_fewest), .int (i32 m_wishes), .ref aX8_wished, .ref aX8_far, .ref aX8_queue, .int (i32 m_divided), .ref aX8_divisors, .ref aX8_least, .long (i64 m_pairOne), .long (i64 m_pairTwo), .long (i64 m_sumUp), .long (i64 m_sumDown)])), (aX8_sumMany, aI cI 2000 m_sumMany), (aX8_sumShares, aI cI 12000 m_sumShares), (aX8_wished, aI cI 8 m_wished)] (po_X8_isBetter cI cJ hX8 aX8_ups aX8_downs m_many aX8_row m_isSpent m_found aX8_sumMany aX8_sumShares aX8_sumSet aX8_taken aX8_restUp aX8_restDown m_fewest m_wishes aX8_wished aX8_far aX8_queue m_divided aX8_divisors aX8_least m_pairOne m_pairTwo m_sumUp m_sumDown m_sumMany m_sumShares m_wished Q) := by
  refine ct_of (by decide +kernel) (Nat.le_of_ble_eq_true rfl) (fun X hl hDD hcI hcJ hzt hR hF hnm g => ?_)
  subst hl; subst hDD; subst hcI; subst hcJ; subst hzt
  show Wat X 0 0 0 [(0, .ref hX8), (1, .int (i32 l1)), (2, .int (i32 l2))] [] [(hX8, .inr (7, [.ref aX8_ups, .ref aX8_downs, .int (i32 m_many), .ref aX8_row, .int (i32 m_isSpent), .int (i32 m_found), .ref aX8_sumMany, .ref aX8_sumShares, .ref aX8_sumSet, .ref aX8_taken, .ref aX8_restUp, .ref aX8_restDown, .int (i32 m_fewest), .int (i32 m_wishes), .ref aX8_wished, .ref aX8_far, .ref aX8_queue, .int (i32 m_divided), .ref aX8_divisors, .ref aX8_least, .long (i64 m_pairOne), .long (i64 m_pairTwo), .long (i64 m_sumUp), .long (i64 m_sumDown)])), (aX8_sumMany, aI X.cI 2000 m_sumMany), (aX8_sumShares, aI X.cI 12000 m_sumShares), (aX8_wished, aI X.cI 8 m_wished)]
  replace g : Gd X cX8_isBetter RX8 (some .boolean) 6 := g
  rw [wp_X8_isBetter] at h
  refine q_iconst g (0) dX8_isBetter_0 ?_
  refine q_istore_n (lv' := [(3, .int (i32 0)), (0, .ref hX8), (1, .int (i32 l1)), (2, .int (i32 l2))]) g 3 3 rfl (by decide) rfl dX8_isBetter_1 ?_
  refine q_lv (lv' := [(0, .ref hX8), (1, .int (i32 l1)), (2, .int (i32 l2)), (3, .int (i32 0))]) [1, 2, 3, 0] rfl ?_
  obtain ⟨n0, h⟩ := h
  exact s_X8_isBetter_2 g hR hX8 aX8_ups aX8_downs m_many aX8_row m_isSpent m_found aX8_sumMany aX8_sumShares aX8_sumSet aX8_taken aX8_restUp aX8_restDown m_fewest aX8_wished aX8_far aX8_queue m_divided aX8_divisors aX8_least m_pairOne m_pairTwo m_sumUp m_sumDown m_sumMany m_sumShares m_wishes m_wished r_m_sumMany r_m_sumShares r_m_wishes r_m_wished Q hF n0 l1 l2 0 r_l1 r_l2 (r32_lit _ (by decide)) h
theorem dX8_best_0 : decode cX8_best 0 = .ok (.aload_n 0, 1) := by decide +kernel
theorem dX8_best_1 : decode cX8_best 1 = .ok (.getfield 20, 3) := by decide +kernel
theorem dX8_best_4 : decode cX8_best 4 = .ok (.ifCond .lt 10, 3) := by decide +kernel
theorem dX8_best_7 : decode cX8_best 7 = .ok (.aload_n 0, 1) := by decide +kernel
theorem dX8_best_8 : decode cX8_best 8 = .ok (.invokevirtual 166, 3) := by decide +kernel
theorem dX8_best_11 : decode cX8_best 11 = .ok (.ifCond .lt 6, 3) := by decide +kernel
theorem dX8_best_14 : decode cX8_best 14 = .ok (.bipush (-2), 2) := by decide +kernel
theorem dX8_best_16 : decode cX8_best 16 = .ok (.ireturn, 1) := by decide +kernel
theorem dX8_best_17 : decode cX8_best 17 = .ok (.bipush (-4), 2) := by decide +kernel
theorem dX8_best_19 : decode cX8_best 19 = .ok (.istore_n 1, 1) := by decide +kernel
theorem dX8_best_20 : decode cX8_best 20 = .ok (.iconst 0, 1) := by decide +kernel
theorem dX8_best_21 : decode cX8_best 21 = .ok (.istore_n 2, 1) := by decide +kernel
theorem dX8_best_22 : decode cX8_best 22 = .ok (.iload_n 2, 1) := by decide +kernel
theorem dX8_best_23 : decode cX8_best 23 = .ok (.aload_n 0, 1) := by decide +kernel
theorem dX8_best_24 : decode cX8_best 24 = .ok (.getfield 20, 3) := by decide +kernel
theorem dX8_best_27 : decode cX8_best 27 = .ok (.if_icmp .ge 28, 3) := by decide +kernel
theorem dX8_best_30 : decode cX8_best 30 = .ok (.iload_n 1, 1) := by decide +kernel
theorem dX8_best_31 : decode cX8_best 31 = .ok (.ifCond .lt 12, 3) := by decide +kernel
theorem dX8_best_34 : decode cX8_best 34 = .ok (.aload_n 0, 1) := by decide +kernel
theorem dX8_best_35 : decode cX8_best 35 = .ok (.iload_n 2, 1) := by decide +kernel
theorem dX8_best_36 : decode cX8_best 36 = .ok (.iload_n 1, 1) := by decide +kernel
theorem dX8_best_37 : decode cX8_best 37 = .ok (.invokevirtual 169, 3) := by decide +kernel
theorem dX8_best_40 : decode cX8_best 40 = .ok (.ifCond .eq 7, 3) := by decide +kernel
theorem dX8_best_43 : decode cX8_best 43 = .ok (.iload_n 2, 1) := by decide +kernel
theorem dX8_best_44 : decode cX8_best 44 = .ok (.goto 4, 3) := by decide +kernel
theorem dX8_best_47 : decode cX8_best 47 = .ok (.iload_n 1, 1) := by decide +kernel
theorem dX8_best_48 : decode cX8_best 48 = .ok (.istore_n 1, 1) := by decide +kernel
theorem dX8_best_49 : decode cX8_best 49 = .ok (.iinc 2 1, 3) := by decide +kernel
theorem dX8_best_52 : decode cX8_best 52 = .ok (.goto (-30), 3) := by decide +kernel
theorem dX8_best_55 : decode cX8_best 55 = .ok (.iload_n 1, 1) := by decide +kernel
theorem dX8_best_56 : decode cX8_best 56 = .ok (.ireturn, 1) := by decide +kernel
abbrev po_X8_best (cI cJ : ClassId) (hX8 : Nat) (aX8_ups : Nat) (aX8_downs : Nat) (m_many : Int) (aX8_row : Nat) (m_isSpent : Int) (m_found : Int) (aX8_sumMany : Nat) (aX8_sumShares : Nat) (aX8_sumSet : Nat) (aX8_taken : Nat) (aX8_restUp : Nat) (aX8_restDown : Nat) (m_fewest : Int) (m_wishes : Int) (aX8_wished : Nat) (aX8_far : Nat) (aX8_queue : Nat) (m_divided : Int) (aX8_divisors : Nat) (aX8_least : Nat) (m_pairOne : Int) (m_pairTwo : Int) (m_sumUp : Int) (m_sumDown : Int) (m_sumMany : Int → Int) (m_sumShares : Int → Int) (m_wished : Int → Int) (Q : Int → Prop) : Option Value → va_W → Prop := fun rv w1 => ∃ (r0 : Int), rv = some (.int (i32 r0)) ∧ w1 = [(hX8, .inr (7, [.ref aX8_ups, .ref aX8_downs, .int (i32 m_many), .ref aX8_row, .int (i32 m_isSpent), .int (i32 m_found), .ref aX8_sumMany, .ref aX8_sumShares, .ref aX8_sumSet, .ref aX8_taken, .ref aX8_restUp, .ref aX8_restDown, .int (i32 m_fewest), .int (i32 m_wishes), .ref aX8_wished, .ref aX8_far, .ref aX8_queue, .int (i32 m_divided), .ref aX8_divisors, .ref aX8_least, .long (i64 m_pairOne), .long (i64 m_pairTwo), .long (i64 m_sumUp), .long (i64 m_sumDown)])), (aX8_sumMany, aI cI 2000 m_sumMany), (aX8_sumShares, aI cI 12000 m_sumShares), (aX8_wished, aI cI 8 m_wished)] ∧ r32 r0 ∧ Q r0
def wp_X8_best_14 (Q : Int → Prop) (m_found : Int) (m_sumMany : Int → Int) (m_sumShares : Int → Int) (m_wishes : Int) (m_wished : Int → Int) : Prop := Q (-2)
set_option maxHeartbeats 4000000 in
set_option maxRecDepth 100000 in
theorem s_X8_best_14 {X : Cx} (g : Gd X cX8_best RX8 (some .int) 3) (hR : X.R = rmL 3 0 0) (hX8 : Nat) (aX8_ups : Nat) (aX8_downs : Nat) (m_many : Int) (aX8_row : Nat) (m_isSpent : Int) (aX8_sumMany : Nat) (aX8_sumShares : Nat) (aX8_sumSet : Nat) (aX8_taken : Nat) (aX8_restUp : Nat) (aX8_restDown : Nat) (m_fewest : Int) (aX8_wished : Nat) (aX8_far : Nat) (aX8_queue : Nat) (m_divided : Int) (aX8_divisors : Nat) (aX8_least : Nat) (m_pairOne : Int) (m_pairTwo : Int) (m_sumUp : Int) (m_sumDown : Int) (m_found : Int) (m_sumMany : Int → Int) (m_sumShares : Int → Int) (m_wishes : Int) (m_wished : Int → Int) (r_m_found : r32 m_found) (r_m_sumMany : rr32 m_sumMany) (r_m_sumShares : rr32 m_sumShares) (r_m_wishes : r32 m_wishes) (r_m_wished : rr32 m_wished) (Q : Int → Prop) (hF : FQ X 0 0 (po_X8_best X.cI X.cJ hX8 aX8_ups aX8_downs m_many aX8_row m_isSpent m_found aX8_sumMany aX8_sumShares aX8_sumSet aX8_taken aX8_restUp aX8_restDown m_fewest m_wishes aX8_wished aX8_far aX8_queue m_divided aX8_divisors aX8_least m_pairOne m_pairTwo m_sumUp m_sumDown m_sumMany m_sumShares m_wished Q)) : wp_X8_best_14 Q m_found m_sumMany m_sumShares m_wishes m_wished → Wat X 0 0 14 [] [] [(hX8, .inr (7, [.ref aX8_ups, .ref aX8_downs, .int (i32 m_many), .ref aX8_row, .int (i32 m_isSpent), .int (i32 m_found), .ref aX8_sumMany, .ref aX8_sumShares, .ref aX8_sumSet, .ref aX8_taken, .ref aX8_restUp, .ref aX8_restDown, .int (i32 m_fewest), .int (i32 m_wishes), .ref aX8_wished, .ref aX8_far, .ref aX8_queue, .int (i32 m_divided), .ref aX8_divisors, .ref aX8_least, .long (i64 m_pairOne), .long (i64 m_pairTwo), .long (i64 m_sumUp), .long (i64 m_sumDown)])), (aX8_sumMany, aI X.cI 2000 m_sumMany), (aX8_sumShares, aI X.cI 12000 m_sumShares), (aX8_wished, aI X.cI 8 m_wished)] := by
  intro h
  rw [wp_X8_best_14] at h
  refine q_bipush g (-2) (by decide) (by decide) dX8_best_14 ?_
  exact q_iret g hF ⟨(-2), rfl, rfl, (r32_lit _ (by decide)), h⟩ dX8_best_16
def wp_X8_best_48 (Q : Int → Prop) (m_found : Int) (m_sumMany : Int → Int) (m_sumShares : Int → Int) (m_wishes : Int) (m_wished : Int → Int) (K_22 : Int → Int → Prop) (l2 : Int) (k0 : Int) : Prop := (r32 (l2 + 1) ∧ K_22 k0 (l2 + 1))
set_option maxHeartbeats 4000000 in
set_option maxRecDepth 100000 in
theorem s_X8_best_48 {X : Cx} (g : Gd X cX8_best RX8 (some .int) 3) (hR : X.R = rmL 3 0 0) (hX8 : Nat) (aX8_ups : Nat) (aX8_downs : Nat) (m_many : Int) (aX8_row : Nat) (m_isSpent : Int) (aX8_sumMany : Nat) (aX8_sumShares : Nat) (aX8_sumSet : Nat) (aX8_taken : Nat) (aX8_restUp : Nat) (aX8_restDown : Nat) (m_fewest : Int) (aX8_wished : Nat) (aX8_far : Nat) (aX8_queue : Nat) (m_divided : Int) (aX8_divisors : Nat) (aX8_least : Nat) (m_pairOne : Int) (m_pairTwo : Int) (m_sumUp : Int) (m_sumDown : Int) (m_found : Int) (m_sumMany : Int → Int) (m_sumShares : Int → Int) (m_wishes : Int) (m_wished : Int → Int) (r_m_found : r32 m_found) (r_m_sumMany : rr32 m_sumMany) (r_m_sumShares : rr32 m_sumShares) (r_m_wishes : r32 m_wishes) (r_m_wished : rr32 m_wished) (Q : Int → Prop) (hF : FQ X 0 0 (po_X8_best X.cI X.cJ hX8 aX8_ups aX8_downs m_many aX8_row m_isSpent m_found aX8_sumMany aX8_sumShares aX8_sumSet aX8_taken aX8_restUp aX8_restDown m_fewest m_wishes aX8_wished aX8_far aX8_queue m_divided aX8_divisors aX8_least m_pairOne m_pairTwo m_sumUp m_sumDown m_sumMany m_sumShares m_wished Q)) (K_22 : Int → Int → Prop) (hK_22 : ∀ (l1 : Int) (l2 : Int), r32 l1 → r32 l2 → K_22 l1 l2 → Wat X 0 0 22 [(0, .ref hX8), (1, .int (i32 l1)), (2, .int (i32 l2))] [] [(hX8, .inr (7, [.ref aX8_ups, .ref aX8_downs, .int (i32 m_many), .ref aX8_row, .int (i32 m_isSpent), .int (i32 m_found), .ref aX8_sumMany, .ref aX8_sumShares, .ref aX8_sumSet, .ref aX8_taken, .ref aX8_restUp, .ref aX8_restDown, .int (i32 m_fewest), .int (i32 m_wishes), .ref aX8_wished, .ref aX8_far, .ref aX8_queue, .int (i32 m_divided), .ref aX8_divisors, .ref aX8_least, .long (i64 m_pairOne), .long (i64 m_pairTwo), .long (i64 m_sumUp), .long (i64 m_sumDown)])), (aX8_sumMany, aI X.cI 2000 m_sumMany), (aX8_sumShares, aI X.cI 12000 m_sumShares), (aX8_wished, aI X.cI 8 m_wished)]) : ∀ (l2 : Int) (k0 : Int), r32 l2 → r32 k0 → wp_X8_best_48 Q m_found m_sumMany m_sumShares m_wishes m_wished K_22 l2 k0 → Wat X 0 0 48 [(0, .ref hX8), (2, .int (i32 l2))] [.int (i32 k0)] [(hX8, .inr (7, [.ref aX8_ups, .ref aX8_downs, .int (i32 m_many), .ref aX8_row, .int (i32 m_isSpent), .int (i32 m_found), .ref aX8_sumMany, .ref aX8_sumShares, .ref aX8_sumSet, .ref aX8_taken, .ref aX8_restUp, .ref aX8_restDown, .int (i32 m_fewest), .int (i32 m_wishes), .ref aX8_wished, .ref aX8_far, .ref aX8_queue, .int (i32 m_divided), .ref aX8_divisors, .ref aX8_least, .long (i64 m_pairOne), .long (i64 m_pairTwo), .long (i64 m_sumUp), .long (i64 m_sumDown)])), (aX8_sumMany, aI X.cI 2000 m_sumMany), (aX8_sumShares, aI X.cI 12000 m_sumShares), (aX8_wished, aI X.cI 8 m_wished)] := by
  intro l2 k0 r_l2 r_k0 h
  rw [wp_X8_best_48] at h
  refine q_istore_n (lv' := [(1, .int (i32 k0)), (0, .ref hX8), (2, .int (i32 l2))]) g 1 1 rfl (by decide) rfl dX8_best_48 ?_
  obtain ⟨c49, h⟩ := h
  refine q_iinc (lv' := [(2, .int (i32 (l2 + 1))), (1, .int (i32 k0)), (0, .ref hX8)]) g 2 2 1 (by decide) rfl rfl dX8_best_49 ?_
  refine q_goto g (-30) 22 (by decide) dX8_best_52 ?_
  refine q_lv (lv' := [(0, .ref hX8), (1, .int (i32 k0)), (2, .int (i32 (l2 + 1)))]) [2, 1, 0] rfl ?_
  exact hK_22 k0 (l2 + 1) r_k0 c49 h
def wp_X8_best_43 (Q : Int → Prop) (m_found : Int) (m_sumMany : Int → Int) (m_sumShares : Int → Int) (m_wishes : Int) (m_wished : Int → Int) (K_22 : Int → Int → Prop) (l2 : Int) : Prop := wp_X8_best_48 Q m_found m_sumMany m_sumShares m_wishes m_wished K_22 l2 l2
set_option maxHeartbeats 4000000 in
set_option maxRecDepth 100000 in
theorem s_X8_best_43 {X : Cx} (g : Gd X cX8_best RX8 (some .int) 3) (hR : X.R = rmL 3 0 0) (hX8 : Nat) (aX8_ups : Nat) (aX8_downs : Nat) (m_many : Int) (aX8_row : Nat) (m_isSpent : Int) (aX8_sumMany : Nat) (aX8_sumShares : Nat) (aX8_sumSet : Nat) (aX8_taken : Nat) (aX8_restUp : Nat) (aX8_restDown : Nat) (m_fewest : Int) (aX8_wished : Nat) (aX8_far : Nat) (aX8_queue : Nat) (m_divided : Int) (aX8_divisors : Nat) (aX8_least : Nat) (m_pairOne : Int) (m_pairTwo : Int) (m_sumUp : Int) (m_sumDown : Int) (m_found : Int) (m_sumMany : Int → Int) (m_sumShares : Int → Int) (m_wishes : Int) (m_wished : Int → Int) (r_m_found : r32 m_found) (r_m_sumMany : rr32 m_sumMany) (r_m_sumShares : rr32 m_sumShares) (r_m_wishes : r32 m_wishes) (r_m_wished : rr32 m_wished) (Q : Int → Prop) (hF : FQ X 0 0 (po_X8_best X.cI X.cJ hX8 aX8_ups aX8_downs m_many aX8_row m_isSpent m_found aX8_sumMany aX8_sumShares aX8_sumSet aX8_taken aX8_restUp aX8_restDown m_fewest m_wishes aX8_wished aX8_far aX8_queue m_divided aX8_divisors aX8_least m_pairOne m_pairTwo m_sumUp m_sumDown m_sumMany m_sumShares m_wished Q)) (K_22 : Int → Int → Prop) (hK_22 : ∀ (l1 : Int) (l2 : Int), r32 l1 → r32 l2 → K_22 l1 l2 → Wat X 0 0 22 [(0, .ref hX8), (1, .int (i32 l1)), (2, .int (i32 l2))] [] [(hX8, .inr (7, [.ref aX8_ups, .ref aX8_downs, .int (i32 m_many), .ref aX8_row, .int (i32 m_isSpent), .int (i32 m_found), .ref aX8_sumMany, .ref aX8_sumShares, .ref aX8_sumSet, .ref aX8_taken, .ref aX8_restUp, .ref aX8_restDown, .int (i32 m_fewest), .int (i32 m_wishes), .ref aX8_wished, .ref aX8_far, .ref aX8_queue, .int (i32 m_divided), .ref aX8_divisors, .ref aX8_least, .long (i64 m_pairOne), .long (i64 m_pairTwo), .long (i64 m_sumUp), .long (i64 m_sumDown)])), (aX8_sumMany, aI X.cI 2000 m_sumMany), (aX8_sumShares, aI X.cI 12000 m_sumShares), (aX8_wished, aI X.cI 8 m_wished)]) : ∀ (l2 : Int), r32 l2 → wp_X8_best_43 Q m_found m_sumMany m_sumShares m_wishes m_wished K_22 l2 → Wat X 0 0 43 [(0, .ref hX8), (2, .int (i32 l2))] [] [(hX8, .inr (7, [.ref aX8_ups, .ref aX8_downs, .int (i32 m_many), .ref aX8_row, .int (i32 m_isSpent), .int (i32 m_found), .ref aX8_sumMany, .ref aX8_sumShares, .ref aX8_sumSet, .ref aX8_taken, .ref aX8_restUp, .ref aX8_restDown, .int (i32 m_fewest), .int (i32 m_wishes), .ref aX8_wished, .ref aX8_far, .ref aX8_queue, .int (i32 m_divided), .ref aX8_divisors, .ref aX8_least, .long (i64 m_pairOne), .long (i64 m_pairTwo), .long (i64 m_sumUp), .long (i64 m_sumDown)])), (aX8_sumMany, aI X.cI 2000 m_sumMany), (aX8_sumShares, aI X.cI 12000 m_sumShares), (aX8_wished, aI X.cI 8 m_wished)] := by
  intro l2 r_l2 h
  rw [wp_X8_best_43] at h
  refine q_iload_n g 2 1 rfl dX8_best_43 ?_
  refine q_goto g (4) 48 (by decide) dX8_best_44 ?_
  exact s_X8_best_48 g hR hX8 aX8_ups aX8_downs m_many aX8_row m_isSpent aX8_sumMany aX8_sumShares aX8_sumSet aX8_taken aX8_restUp aX8_restDown m_fewest aX8_wished aX8_far aX8_queue m_divided aX8_divisors aX8_least m_pairOne m_pairTwo m_sumUp m_sumDown m_found m_sumMany m_sumShares m_wishes m_wished r_m_found r_m_sumMany r_m_sumShares r_m_wishes r_m_wished Q hF K_22 hK_22 l2 l2 r_l2 r_l2 h
def wp_X8_best_22 (Q : Int → Prop) (m_found : Int) (m_sumMany : Int → Int) (m_sumShares : Int → Int) (m_wishes : Int) (m_wished : Int → Int) : Nat → Int → Int → Prop
  | 0, _, _ => False
  | n + 1, l1, l2 => ((m_found ≤ l2 → Q l1) ∧
  (¬ (m_found ≤ l2) → ((l1 < 0 → wp_X8_best_43 Q m_found m_sumMany m_sumShares m_wishes m_wished (wp_X8_best_22 Q m_found m_sumMany m_sumShares m_wishes m_wished n) l2) ∧
  (¬ (l1 < 0) → wp_X8_isBetter (fun (x37 : Int) => ((x37 = 0 → wp_X8_best_48 Q m_found m_sumMany m_sumShares m_wishes m_wished (wp_X8_best_22 Q m_found m_sumMany m_sumShares m_wishes m_wished n) l2 l1) ∧
  (¬ (x37 = 0) → wp_X8_best_43 Q m_found m_sumMany m_sumShares m_wishes m_wished (wp_X8_best_22 Q m_found m_sumMany m_sumShares m_wishes m_wished n) l2))) m_sumMany m_sumShares m_wishes m_wished l2 l1))))
set_option maxHeartbeats 4000000 in
set_option maxRecDepth 100000 in
theorem s_X8_best_22 {X : Cx} (g : Gd X cX8_best RX8 (some .int) 3) (hR : X.R = rmL 3 0 0) (hX8 : Nat) (aX8_ups : Nat) (aX8_downs : Nat) (m_many : Int) (aX8_row : Nat) (m_isSpent : Int) (aX8_sumMany : Nat) (aX8_sumShares : Nat) (aX8_sumSet : Nat) (aX8_taken : Nat) (aX8_restUp : Nat) (aX8_restDown : Nat) (m_fewest : Int) (aX8_wished : Nat) (aX8_far : Nat) (aX8_queue : Nat) (m_divided : Int) (aX8_divisors : Nat) (aX8_least : Nat) (m_pairOne : Int) (m_pairTwo : Int) (m_sumUp : Int) (m_sumDown : Int) (m_found : Int) (m_sumMany : Int → Int) (m_sumShares : Int → Int) (m_wishes : Int) (m_wished : Int → Int) (r_m_found : r32 m_found) (r_m_sumMany : rr32 m_sumMany) (r_m_sumShares : rr32 m_sumShares) (r_m_wishes : r32 m_wishes) (r_m_wished : rr32 m_wished) (Q : Int → Prop) (hF : FQ X 0 0 (po_X8_best X.cI X.cJ hX8 aX8_ups aX8_downs m_many aX8_row m_isSpent m_found aX8_sumMany aX8_sumShares aX8_sumSet aX8_taken aX8_restUp aX8_restDown m_fewest m_wishes aX8_wished aX8_far aX8_queue m_divided aX8_divisors aX8_least m_pairOne m_pairTwo m_sumUp m_sumDown m_sumMany m_sumShares m_wished Q)) : ∀ (n : Nat) (l1 : Int) (l2 : Int), r32 l1 → r32 l2 → wp_X8_best_22 Q m_found m_sumMany m_sumShares m_wishes m_wished n l1 l2 → Wat X 0 0 22 [(0, .ref hX8), (1, .int (i32 l1)), (2, .int (i32 l2))] [] [(hX8, .inr (7, [.ref aX8_ups, .ref aX8_downs, .int (i32 m_many), .ref aX8_row, .int (i32 m_isSpent), .int (i32 m_found), .ref aX8_sumMany, .ref aX8_sumShares, .ref aX8_sumSet, .ref aX8_taken, .ref aX8_restUp, .ref aX8_restDown, .int (i32 m_fewest), .int (i32 m_wishes), .ref aX8_wished, .ref aX8_far, .ref aX8_queue, .int (i32 m_divided), .ref aX8_divisors, .ref aX8_least, .long (i64 m_pairOne), .long (i64 m_pairTwo), .long (i64 m_sumUp), .long (i64 m_sumDown)])), (aX8_sumMany, aI X.cI 2000 m_sumMany), (aX8_sumShares, aI X.cI 12000 m_sumShares), (aX8_wished, aI X.cI 8 m_wished)] := by
  intro n
  induction n with
  | zero => intro l1 l2 r_l1 r_l2 h; exact False.elim h
  | succ n ih =>
    intro l1 l2 r_l1 r_l2 h
    rw [wp_X8_best_22] at h
    refine q_iload_n g 2 2 rfl dX8_best_22 ?_
    refine q_aload_n g 0 0 rfl dX8_best_23 ?_
    refine q_get (C := RX8) (T := TX8) (N := 24) g 20 inX8 0 5 rfl rfl (by decide) wF_X8_20 rfl dX8_best_24 ?_
    refine q_icmp_ge g (28) 55 r_l2 r_m_found (by decide) dX8_best_27 (fun b27 => ?_) (fun b27 => ?_)
    · replace h := h.1 b27
      refine q_iload_n g 1 1 rfl dX8_best_55 ?_
      exact q_iret g hF ⟨l1, rfl, rfl, r_l1, h⟩ dX8_best_56
    replace h := h.2 b27
    refine q_iload_n g 1 1 rfl dX8_best_30 ?_
    refine q_if_lt g (12) 43 r_l1 (by decide) dX8_best_31 (fun b31 => ?_) (fun b31 => ?_)
    · replace h := h.1 b31
      refine q_lv (lv' := [(0, .ref hX8), (2, .int (i32 l2))]) [0, 2] rfl ?_
      exact s_X8_best_43 g hR hX8 aX8_ups aX8_downs m_many aX8_row m_isSpent aX8_sumMany aX8_sumShares aX8_sumSet aX8_taken aX8_restUp aX8_restDown m_fewest aX8_wished aX8_far aX8_queue m_divided aX8_divisors aX8_least m_pairOne m_pairTwo m_sumUp m_sumDown m_found m_sumMany m_sumShares m_wishes m_wished r_m_found r_m_sumMany r_m_sumShares r_m_wishes r_m_wished Q hF (wp_X8_best_22 Q m_found m_sumMany m_sumShares m_wishes m_wished n) (fun v0 v1 w0 w1 hh => ih v0 v1 w0 w1 hh) l2 r_l2 h
    replace h := h.2 b31
    refine q_aload_n g 0 0 rfl dX8_best_34 ?_
    refine q_iload_n g 2 2 rfl dX8_best_35 ?_
    refine q_iload_n g 1 1 rfl dX8_best_36 ?_
    refine q_callV (lev := 2) (mc := 0) (ms := 0) g 169 (c_X8_isBetter X.l X.D X.cI X.cJ X.zt hX8 aX8_ups aX8_downs m_many aX8_row m_isSpent m_found aX8_sumMany aX8_sumShares aX8_sumSet aX8_taken aX8_restUp aX8_restDown m_fewest m_wishes aX8_wished aX8_far aX8_queue m_divided aX8_divisors aX8_least m_pairOne m_pairTwo m_sumUp m_sumDown m_sumMany m_sumShares m_wished l2 l1 _ r_m_sumMany r_m_sumShares r_m_wishes r_m_wished r_l2 r_l1 h) (wr := []) [0, 1, 2, 3] [] rfl rfl rfl (by decide) (by decide) (by decide) (ci := 7) rfl rfl rfl wM_X8_169 wI_X8_isBetter wS_X8_isBetter wZ_X8 wC_X8_isBetter 2 rfl (by decide +kernel) (by rw [hR]; exact ⟨by show 2 + 1 ≤ 3; omega, by show 8 + (6 + 11) + 100 * 2 ≤ 100 * 3; omega⟩) (by rw [hR]; exact ⟨Nat.le_refl _, Nat.le_refl _⟩) (Nat.le_of_ble_eq_true rfl) rfl dX8_best_37 (fun rv w1 hq => ?_)
    obtain ⟨x37, rfl, rfl, rx37, h⟩ := hq
    show Wat X 0 0 40 [(0, .ref hX8), (1, .int (i32 l1)), (2, .int (i32 l2))] [.int (i32 x37)] [(hX8, .inr (7, [.ref aX8_ups, .ref aX8_downs, .int (i32 m_many), .ref aX8_row, .int (i32 m_isSpent), .int (i32 m_found), .ref aX8_sumMany, .ref aX8_sumShares, .ref aX8_sumSet, .ref aX8_taken, .ref aX8_restUp, .ref aX8_restDown, .int (i32 m_fewest), .int (i32 m_wishes), .ref aX8_wished, .ref aX8_far, .ref aX8_queue, .int (i32 m_divided), .ref aX8_divisors, .ref aX8_least, .long (i64 m_pairOne), .long (i64 m_pairTwo), .long (i64 m_sumUp), .long (i64 m_sumDown)])), (aX8_sumMany, aI X.cI 2000 m_sumMany), (aX8_sumShares, aI X.cI 12000 m_sumShares), (aX8_wished, aI X.cI 8 m_wished)]
    refine q_if_eq g (7) 47 rx37 (by decide) dX8_best_40 (fun b40 => ?_) (fun b40 => ?_)
    · replace h := h.1 b40
      refine q_iload_n g 1 1 rfl dX8_best_47 ?_
      refine q_lv (lv' := [(0, .ref hX8), (2, .int (i32 l2))]) [0, 2] rfl ?_
      exact s_X8_best_48 g hR hX8 aX8_ups aX8_downs m_many aX8_row m_isSpent aX8_sumMany aX8_sumShares aX8_sumSet aX8_taken aX8_restUp aX8_restDown m_fewest aX8_wished aX8_far aX8_queue m_divided aX8_divisors aX8_least m_pairOne m_pairTwo m_sumUp m_sumDown m_found m_sumMany m_sumShares m_wishes m_wished r_m_found r_m_sumMany r_m_sumShares r_m_wishes r_m_wished Q hF (wp_X8_best_22 Q m_found m_sumMany m_sumShares m_wishes m_wished n) (fun v0 v1 w0 w1 hh => ih v0 v1 w0 w1 hh) l2 l1 r_l2 r_l1 h
    replace h := h.2 b40
    refine q_lv (lv' := [(0, .ref hX8), (2, .int (i32 l2))]) [0, 2] rfl ?_
    exact s_X8_best_43 g hR hX8 aX8_ups aX8_downs m_many aX8_row m_isSpent aX8_sumMany aX8_sumShares aX8_sumSet aX8_taken aX8_restUp aX8_restDown m_fewest aX8_wished aX8_far aX8_queue m_divided aX8_divisors aX8_least m_pairOne m_pairTwo m_sumUp m_sumDown m_found m_sumMany m_sumShares m_wishes m_wished r_m_found r_m_sumMany r_m_sumShares r_m_wishes r_m_wished Q hF (wp_X8_best_22 Q m_found m_sumMany m_sumShares m_wishes m_wished n) (fun v0 v1 w0 w1 hh => ih v0 v1 w0 w1 hh) l2 r_l2 h
def wp_X8_best (Q : Int → Prop) (m_found : Int) (m_sumMany : Int → Int) (m_sumShares : Int → Int) (m_wishes : Int) (m_wished : Int → Int) : Prop := ((m_found < 0 → wp_X8_best_14 Q m_found m_sumMany m_sumShares m_wishes m_wished) ∧
  (¬ (m_found < 0) → wp_X8_fault (fun (x8 : Int) => ((x8 < 0 → (∃ n0 : Nat, wp_X8_best_22 Q m_found m_sumMany m_sumShares m_wishes m_wished n0 (-4) 0)) ∧
  (¬ (x8 < 0) → wp_X8_best_14 Q m_found m_sumMany m_sumShares m_wishes m_wished))) m_wishes m_wished))
set_option maxHeartbeats 4000000 in
set_option maxRecDepth 100000 in
theorem c_X8_best (l : Launch) (D : va_G) (cI cJ : ClassId) (zt : Nat) (hX8 : Nat) (aX8_ups : Nat) (aX8_downs : Nat) (m_many : Int) (aX8_row : Nat) (m_isSpent : Int) (m_found : Int) (aX8_sumMany : Nat) (aX8_sumShares : Nat) (aX8_sumSet : Nat) (aX8_taken : Nat) (aX8_restUp : Nat) (aX8_restDown : Nat) (m_fewest : Int) (m_wishes : Int) (aX8_wished : Nat) (aX8_far : Nat) (aX8_queue : Nat) (m_divided : Int) (aX8_divisors : Nat) (aX8_least : Nat) (m_pairOne : Int) (m_pairTwo : Int) (m_sumUp : Int) (m_sumDown : Int) (m_sumMany : Int → Int) (m_sumShares : Int → Int) (m_wished : Int → Int) (Q : Int → Prop) (r_m_found : r32 m_found) (r_m_sumMany : rr32 m_sumMany) (r_m_sumShares : rr32 m_sumShares) (r_m_wishes : r32 m_wishes) (r_m_wished : rr32 m_wished) (h : wp_X8_best Q m_found m_sumMany m_sumShares m_wishes m_wished) : Ct l D cI cJ zt yX8_best cX8_best 3 (some .int) 3 0 0 [.ref hX8] [(hX8, .inr (7, [.ref aX8_ups, .ref aX8_downs, .int (i32 m_many), .ref aX8_row, .int (i32 m_isSpent), .int (i32 m_found), .ref aX8_sumMany, .ref aX8_sumShares, .ref aX8_sumSet, .ref aX8_taken, .ref aX8_restUp, .ref aX8_restDown, .int (i32 m_fewest), .int (i32 m_wishes), .ref aX8_wished, .ref aX8_far, .ref aX8_queue, .int (i32 m_divided), .ref aX8_divisors, .ref aX8_least, .long (i64 m_pairOne), .long (i64 m_pairTwo), .long (i64 m_sumUp), .long (i64 m_sumDown)])), (aX8_sumMany, aI cI 2000 m_sumMany), (aX8_sumShares, aI cI 12000 m_sumShares), (aX8_wished, aI cI 8 m_wished)] (po_X8_best cI cJ hX8 aX8_ups aX8_downs m_many aX8_row m_isSpent m_found aX8_sumMany aX8_sumShares aX8_sumSet aX8_taken aX8_restUp aX8_restDown m_fewest m_wishes aX8_wished aX8_far aX8_queue m_divided aX8_divisors aX8_least m_pairOne m_pairTwo m_sumUp m_sumDown m_sumMany m_sumShares m_wished Q) := by
  refine ct_of (by decide +kernel) (Nat.le_of_ble_eq_true rfl) (fun X hl hDD hcI hcJ hzt hR hF hnm g => ?_)
  subst hl; subst hDD; subst hcI; subst hcJ; subst hzt
  show Wat X 0 0 0 [(0, .ref hX8)] [] [(hX8, .inr (7, [.ref aX8_ups, .ref aX8_downs, .int (i32 m_many), .ref aX8_row, .int (i32 m_isSpent), .int (i32 m_found), .ref aX8_sumMany, .ref aX8_sumShares, .ref aX8_sumSet, .ref aX8_taken, .ref aX8_restUp, .ref aX8_restDown, .int (i32 m_fewest), .int (i32 m_wishes), .ref aX8_wished, .ref aX8_far, .ref aX8_queue, .int (i32 m_divided), .ref aX8_divisors, .ref aX8_least, .long (i64 m_pairOne), .long (i64 m_pairTwo), .long (i64 m_sumUp), .long (i64 m_sumDown)])), (aX8_sumMany, aI X.cI 2000 m_sumMany), (aX8_sumShares, aI X.cI 12000 m_sumShares), (aX8_wished, aI X.cI 8 m_wished)]
  replace g : Gd X cX8_best RX8 (some .int) 3 := g
  rw [wp_X8_best] at h
  refine q_aload_n g 0 0 rfl dX8_best_0 ?_
  refine q_get (C := RX8) (T := TX8) (N := 24) g 20 inX8 0 5 rfl rfl (by decide) wF_X8_20 rfl dX8_best_1 ?_
  refine q_if_lt g (10) 14 r_m_found (by decide) dX8_best_4 (fun b4 => ?_) (fun b4 => ?_)
  · replace h := h.1 b4
    refine q_lv (lv' := []) [] rfl ?_
    exact s_X8_best_14 g hR hX8 aX8_ups aX8_downs m_many aX8_row m_isSpent aX8_sumMany aX8_sumShares aX8_sumSet aX8_taken aX8_restUp aX8_restDown m_fewest aX8_wished aX8_far aX8_queue m_divided aX8_divisors aX8_least m_pairOne m_pairTwo m_sumUp m_sumDown m_found m_sumMany m_sumShares m_wishes m_wished r_m_found r_m_sumMany r_m_sumShares r_m_wishes r_m_wished Q hF h
  replace h := h.2 b4
  refine q_aload_n g 0 0 rfl dX8_best_7 ?_
  refine q_callV (lev := 1) (mc := 0) (ms := 0) g 166 (c_X8_fault X.l X.D X.cI X.cJ X.zt hX8 aX8_ups aX8_downs m_many aX8_row m_isSpent m_found aX8_sumMany aX8_sumShares aX8_sumSet aX8_taken aX8_restUp aX8_restDown m_fewest m_wishes aX8_wished aX8_far aX8_queue m_divided aX8_divisors aX8_least m_pairOne m_pairTwo m_sumUp m_sumDown m_wished _ r_m_wishes r_m_wished h) (wr := [(aX8_sumMany, aI X.cI 2000 m_sumMany), (aX8_sumShares, aI X.cI 12000 m_sumShares)]) [0, 3] [1, 2] rfl rfl rfl (by decide) (by decide) (by decide) (ci := 7) rfl rfl rfl wM_X8_166 wI_X8_fault wS_X8_fault wZ_X8 wC_X8_fault 0 rfl (by decide +kernel) (by rw [hR]; exact ⟨by show 1 + 1 ≤ 3; omega, by show 8 + (5 + 11) + 100 * 1 ≤ 100 * 3; omega⟩) (by rw [hR]; exact ⟨Nat.le_refl _, Nat.le_refl _⟩) (Nat.le_of_ble_eq_true rfl) rfl dX8_best_8 (fun rv w1 hq => ?_)
  obtain ⟨x8, rfl, rfl, rx8, h⟩ := hq
  refine q_ws (ws' := [(hX8, .inr (7, [.ref aX8_ups, .ref aX8_downs, .int (i32 m_many), .ref aX8_row, .int (i32 m_isSpent), .int (i32 m_found), .ref aX8_sumMany, .ref aX8_sumShares, .ref aX8_sumSet, .ref aX8_taken, .ref aX8_restUp, .ref aX8_restDown, .int (i32 m_fewest), .int (i32 m_wishes), .ref aX8_wished, .ref aX8_far, .ref aX8_queue, .int (i32 m_divided), .ref aX8_divisors, .ref aX8_least, .long (i64 m_pairOne), .long (i64 m_pairTwo), .long (i64 m_sumUp), .long (i64 m_sumDown)])), (aX8_sumMany, aI X.cI 2000 m_sumMany), (aX8_sumShares, aI X.cI 12000 m_sumShares), (aX8_wished, aI X.cI 8 m_wished)]) [2, 0, 1, 3] (by decide) rfl rfl ?_
  show Wat X 0 0 11 [(0, .ref hX8)] [.int (i32 x8)] [(hX8, .inr (7, [.ref aX8_ups, .ref aX8_downs, .int (i32 m_many), .ref aX8_row, .int (i32 m_isSpent), .int (i32 m_found), .ref aX8_sumMany, .ref aX8_sumShares, .ref aX8_sumSet, .ref aX8_taken, .ref aX8_restUp, .ref aX8_restDown, .int (i32 m_fewest), .int (i32 m_wishes), .ref aX8_wished, .ref aX8_far, .ref aX8_queue, .int (i32 m_divided), .ref aX8_divisors, .ref aX8_least, .long (i64 m_pairOne), .long (i64 m_pairTwo), .long (i64 m_sumUp), .long (i64 m_sumDown)])), (aX8_sumMany, aI X.cI 2000 m_sumMany), (aX8_sumShares, aI X.cI 12000 m_sumShares), (aX8_wished, aI X.cI 8 m_wished)]
  refine q_if_lt g (6) 17 rx8 (by decide) dX8_best_11 (fun b11 => ?_) (fun b11 => ?_)
  · replace h := h.1 b11
    refine q_bipush g (-4) (by decide) (by decide) dX8_best_17 ?_
    refine q_istore_n (lv' := [(1, .int (i32 (-4))), (0, .ref hX8)]) g 1 1 rfl (by decide) rfl dX8_best_19 ?_
    refine q_iconst g (0) dX8_best_20 ?_
    refine q_istore_n (lv' := [(2, .int (i32 0)), (1, .int (i32 (-4))), (0, .ref hX8)]) g 2 2 rfl (by decide) rfl dX8_best_21 ?_
    refine q_lv (lv' := [(0, .ref hX8), (1, .int (i32 (-4))), (2, .int (i32 0))]) [2, 1, 0] rfl ?_
    obtain ⟨n0, h⟩ := h
    exact s_X8_best_22 g hR hX8 aX8_ups aX8_downs m_many aX8_row m_isSpent aX8_sumMany aX8_sumShares aX8_sumSet aX8_taken aX8_restUp aX8_restDown m_fewest aX8_wished aX8_far aX8_queue m_divided aX8_divisors aX8_least m_pairOne m_pairTwo m_sumUp m_sumDown m_found m_sumMany m_sumShares m_wishes m_wished r_m_found r_m_sumMany r_m_sumShares r_m_wishes r_m_wished Q hF n0 (-4) 0 (r32_lit _ (by decide)) (r32_lit _ (by decide)) h
  replace h := h.2 b11
  refine q_lv (lv' := []) [] rfl ?_
  exact s_X8_best_14 g hR hX8 aX8_ups aX8_downs m_many aX8_row m_isSpent aX8_sumMany aX8_sumShares aX8_sumSet aX8_taken aX8_restUp aX8_restDown m_fewest aX8_wished aX8_far aX8_queue m_divided aX8_divisors aX8_least m_pairOne m_pairTwo m_sumUp m_sumDown m_found m_sumMany m_sumShares m_wishes m_wished r_m_found r_m_sumMany r_m_sumShares r_m_wishes r_m_wished Q hF h
theorem dX8_count_0 : decode cX8_count 0 = .ok (.iconst 0, 1) := by decide +kernel
theorem dX8_count_1 : decode cX8_count 1 = .ok (.istore_n 2, 1) := by decide +kernel
theorem dX8_count_2 : decode cX8_count 2 = .ok (.iconst 0, 1) := by decide +kernel
theorem dX8_count_3 : decode cX8_count 3 = .ok (.istore_n 3, 1) := by decide +kernel
theorem dX8_count_4 : decode cX8_count 4 = .ok (.iload_n 3, 1) := by decide +kernel
theorem dX8_count_5 : decode cX8_count 5 = .ok (.bipush 8, 2) := by decide +kernel
theorem dX8_count_7 : decode cX8_count 7 = .ok (.if_icmp .ge 26, 3) := by decide +kernel
theorem dX8_count_10 : decode cX8_count 10 = .ok (.iload_n 2, 1) := by decide +kernel
theorem dX8_count_11 : decode cX8_count 11 = .ok (.aload_n 0, 1) := by decide +kernel
theorem dX8_count_12 : decode cX8_count 12 = .ok (.getfield 7, 3) := by decide +kernel
theorem dX8_count_15 : decode cX8_count 15 = .ok (.iload_n 3, 1) := by decide +kernel
theorem dX8_count_16 : decode cX8_count 16 = .ok (.iaload, 1) := by decide +kernel
theorem dX8_count_17 : decode cX8_count 17 = .ok (.ifCond .le 7, 3) := by decide +kernel
theorem dX8_count_20 : decode cX8_count 20 = .ok (.iconst 1, 1) := by decide +kernel
theorem dX8_count_21 : decode cX8_count 21 = .ok (.goto 4, 3) := by decide +kernel
theorem dX8_count_24 : decode cX8_count 24 = .ok (.iconst 0, 1) := by decide +kernel
theorem dX8_count_25 : decode cX8_count 25 = .ok (.iadd, 1) := by decide +kernel
theorem dX8_count_26 : decode cX8_count 26 = .ok (.istore_n 2, 1) := by decide +kernel
theorem dX8_count_27 : decode cX8_count 27 = .ok (.iinc 3 1, 3) := by decide +kernel
theorem dX8_count_30 : decode cX8_count 30 = .ok (.goto (-26), 3) := by decide +kernel
theorem dX8_count_33 : decode cX8_count 33 = .ok (.iconst 0, 1) := by decide +kernel
theorem dX8_count_34 : decode cX8_count 34 = .ok (.istore_n 3, 1) := by decide +kernel
theorem dX8_count_35 : decode cX8_count 35 = .ok (.iconst 0, 1) := by decide +kernel
theorem dX8_count_36 : decode cX8_count 36 = .ok (.istore 4, 2) := by decide +kernel
theorem dX8_count_38 : decode cX8_count 38 = .ok (.iload 4, 2) := by decide +kernel
theorem dX8_count_40 : decode cX8_count 40 = .ok (.aload_n 0, 1) := by decide +kernel
theorem dX8_count_41 : decode cX8_count 41 = .ok (.getfield 20, 3) := by decide +kernel
theorem dX8_count_44 : decode cX8_count 44 = .ok (.if_icmp .ge 19, 3) := by decide +kernel
theorem dX8_count_47 : decode cX8_count 47 = .ok (.iload_n 3, 1) := by decide +kernel
theorem dX8_count_48 : decode cX8_count 48 = .ok (.aload_n 0, 1) := by decide +kernel
theorem dX8_count_49 : decode cX8_count 49 = .ok (.getfield 24, 3) := by decide +kernel
theorem dX8_count_52 : decode cX8_count 52 = .ok (.iload 4, 2) := by decide +kernel
theorem dX8_count_54 : decode cX8_count 54 = .ok (.iaload, 1) := by decide +kernel
theorem dX8_count_55 : decode cX8_count 55 = .ok (.iadd, 1) := by decide +kernel
theorem dX8_count_56 : decode cX8_count 56 = .ok (.istore_n 3, 1) := by decide +kernel
theorem dX8_count_57 : decode cX8_count 57 = .ok (.iinc 4 1, 3) := by decide +kernel
theorem dX8_count_60 : decode cX8_count 60 = .ok (.goto (-22), 3) := by decide +kernel
theorem dX8_count_63 : decode cX8_count 63 = .ok (.iload_n 1, 1) := by decide +kernel
theorem dX8_count_64 : decode cX8_count 64 = .ok (.tableswitch 57 0 3 #[32, 34, 39, 55], 32) := by decide +kernel
theorem dX8_count_96 : decode cX8_count 96 = .ok (.iload_n 2, 1) := by decide +kernel
theorem dX8_count_97 : decode cX8_count 97 = .ok (.ireturn, 1) := by decide +kernel
theorem dX8_count_98 : decode cX8_count 98 = .ok (.aload_n 0, 1) := by decide +kernel
theorem dX8_count_99 : decode cX8_count 99 = .ok (.getfield 157, 3) := by decide +kernel
theorem dX8_count_102 : decode cX8_count 102 = .ok (.ireturn, 1) := by decide +kernel
theorem dX8_count_103 : decode cX8_count 103 = .ok (.aload_n 0, 1) := by decide +kernel
theorem dX8_count_104 : decode cX8_count 104 = .ok (.getfield 20, 3) := by decide +kernel
theorem dX8_count_107 : decode cX8_count 107 = .ok (.ifCond .ge 7, 3) := by decide +kernel
theorem dX8_count_110 : decode cX8_count 110 = .ok (.iconst 0, 1) := by decide +kernel
theorem dX8_count_111 : decode cX8_count 111 = .ok (.goto 7, 3) := by decide +kernel
theorem dX8_count_114 : decode cX8_count 114 = .ok (.aload_n 0, 1) := by decide +kernel
theorem dX8_count_115 : decode cX8_count 115 = .ok (.getfield 20, 3) := by decide +kernel
theorem dX8_count_118 : decode cX8_count 118 = .ok (.ireturn, 1) := by decide +kernel
theorem dX8_count_119 : decode cX8_count 119 = .ok (.iload_n 3, 1) := by decide +kernel
theorem dX8_count_120 : decode cX8_count 120 = .ok (.ireturn, 1) := by decide +kernel
theorem dX8_count_121 : decode cX8_count 121 = .ok (.iconst (-1), 1) := by decide +kernel
theorem dX8_count_122 : decode cX8_count 122 = .ok (.ireturn, 1) := by decide +kernel
abbrev po_X8_count (cI cJ : ClassId) (hX8 : Nat) (aX8_ups : Nat) (aX8_downs : Nat) (m_many : Int) (aX8_row : Nat) (m_isSpent : Int) (m_found : Int) (aX8_sumMany : Nat) (aX8_sumShares : Nat) (aX8_sumSet : Nat) (aX8_taken : Nat) (aX8_restUp : Nat) (aX8_restDown : Nat) (m_fewest : Int) (m_wishes : Int) (aX8_wished : Nat) (aX8_far : Nat) (aX8_queue : Nat) (m_divided : Int) (aX8_divisors : Nat) (aX8_least : Nat) (m_pairOne : Int) (m_pairTwo : Int) (m_sumUp : Int) (m_sumDown : Int) (m_ups : Int → Int) (m_sumMany : Int → Int) (Q : Int → Prop) : Option Value → va_W → Prop := fun rv w1 => ∃ (r0 : Int), rv = some (.int (i32 r0)) ∧ w1 = [(hX8, .inr (7, [.ref aX8_ups, .ref aX8_downs, .int (i32 m_many), .ref aX8_row, .int (i32 m_isSpent), .int (i32 m_found), .ref aX8_sumMany, .ref aX8_sumShares, .ref aX8_sumSet, .ref aX8_taken, .ref aX8_restUp, .ref aX8_restDown, .int (i32 m_fewest), .int (i32 m_wishes), .ref aX8_wished, .ref aX8_far, .ref aX8_queue, .int (i32 m_divided), .ref aX8_divisors, .ref aX8_least, .long (i64 m_pairOne), .long (i64 m_pairTwo), .long (i64 m_sumUp), .long (i64 m_sumDown)])), (aX8_ups, aI cI 8 m_ups), (aX8_sumMany, aI cI 2000 m_sumMany)] ∧ r32 r0 ∧ Q r0
def wp_X8_count_25 (Q : Int → Prop) (m_ups : Int → Int) (m_found : Int) (m_sumMany : Int → Int) (m_wishes : Int) (K_4 : Int → Int → Int → Prop) (l1 : Int) (l3 : Int) (k0 : Int) (k1 : Int) : Prop := (r32 (k0 + k1) ∧ ∀ x26 : Int, x26 = (k0 + k1) → r32 (l3 + 1) ∧ K_4 l1 x26 (l3 + 1))
set_option maxHeartbeats 4000000 in
set_option maxRecDepth 100000 in
theorem s_X8_count_25 {X : Cx} (g : Gd X cX8_count RX8 (some .int) 5) (hR : X.R = rmL 1 0 0) (hX8 : Nat) (aX8_ups : Nat) (aX8_downs : Nat) (m_many : Int) (aX8_row : Nat) (m_isSpent : Int) (aX8_sumMany : Nat) (aX8_sumShares : Nat) (aX8_sumSet : Nat) (aX8_taken : Nat) (aX8_restUp : Nat) (aX8_restDown : Nat) (m_fewest : Int) (aX8_wished : Nat) (aX8_far : Nat) (aX8_queue : Nat) (m_divided : Int) (aX8_divisors : Nat) (aX8_least : Nat) (m_pairOne : Int) (m_pairTwo : Int) (m_sumUp : Int) (m_sumDown : Int) (m_ups : Int → Int) (m_found : Int) (m_sumMany : Int → Int) (m_wishes : Int) (r_m_ups : rr32 m_ups) (r_m_found : r32 m_found) (r_m_sumMany : rr32 m_sumMany) (r_m_wishes : r32 m_wishes) (Q : Int → Prop) (hF : FQ X 0 0 (po_X8_count X.cI X.cJ hX8 aX8_ups aX8_downs m_many aX8_row m_isSpent m_found aX8_sumMany aX8_sumShares aX8_sumSet aX8_taken aX8_restUp aX8_restDown m_fewest m_wishes aX8_wished aX8_far aX8_queue m_divided aX8_divisors aX8_least m_pairOne m_pairTwo m_sumUp m_sumDown m_ups m_sumMany Q)) (K_4 : Int → Int → Int → Prop) (hK_4 : ∀ (l1 : Int) (l2 : Int) (l3 : Int), r32 l1 → r32 l2 → r32 l3 → K_4 l1 l2 l3 → Wat X 0 0 4 [(0, .ref hX8), (1, .int (i32 l1)), (2, .int (i32 l2)), (3, .int (i32 l3))] [] [(hX8, .inr (7, [.ref aX8_ups, .ref aX8_downs, .int (i32 m_many), .ref aX8_row, .int (i32 m_isSpent), .int (i32 m_found), .ref aX8_sumMany, .ref aX8_sumShares, .ref aX8_sumSet, .ref aX8_taken, .ref aX8_restUp, .ref aX8_restDown, .int (i32 m_fewest), .int (i32 m_wishes), .ref aX8_wished, .ref aX8_far, .ref aX8_queue, .int (i32 m_divided), .ref aX8_divisors, .ref aX8_least, .long (i64 m_pairOne), .long (i64 m_pairTwo), .long (i64 m_sumUp), .long (i64 m_sumDown)])), (aX8_ups, aI X.cI 8 m_ups), (aX8_sumMany, aI X.cI 2000 m_sumMany)]) : ∀ (l1 : Int) (l3 : Int) (k0 : Int) (k1 : Int), r32 l1 → r32 l3 → r32 k0 → r32 k1 → wp_X8_count_25 Q m_ups m_found m_sumMany m_wishes K_4 l1 l3 k0 k1 → Wat X 0 0 25 [(0, .ref hX8), (1, .int (i32 l1)), (3, .int (i32 l3))] [.int (i32 k1), .int (i32 k0)] [(hX8, .inr (7, [.ref aX8_ups, .ref aX8_downs, .int (i32 m_many), .ref aX8_row, .int (i32 m_isSpent), .int (i32 m_found), .ref aX8_sumMany, .ref aX8_sumShares, .ref aX8_sumSet, .ref aX8_taken, .ref aX8_restUp, .ref aX8_restDown, .int (i32 m_fewest), .int (i32 m_wishes), .ref aX8_wished, .ref aX8_far, .ref aX8_queue, .int (i32 m_divided), .ref aX8_divisors, .ref aX8_least, .long (i64 m_pairOne), .long (i64 m_pairTwo), .long (i64 m_sumUp), .long (i64 m_sumDown)])), (aX8_ups, aI X.cI 8 m_ups), (aX8_sumMany, aI X.cI 2000 m_sumMany)] := by
  intro l1 l3 k0 k1 r_l1 r_l3 r_k0 r_k1 h
  rw [wp_X8_count_25] at h
  obtain ⟨c25, h⟩ := h
  refine q_iadd g dX8_count_25 ?_
  refine q_topi c25 (fun x26 ex26 rx26 => ?_)
  replace h := h x26 ex26
  refine q_istore_n (lv' := [(2, .int (i32 x26)), (0, .ref hX8), (1, .int (i32 l1)), (3, .int (i32 l3))]) g 2 2 rfl (by decide) rfl dX8_count_26 ?_
  obtain ⟨c27, h⟩ := h
  refine q_iinc (lv' := [(3, .int (i32 (l3 + 1))), (2, .int (i32 x26)), (0, .ref hX8), (1, .int (i32 l1))]) g 3 3 1 (by decide) rfl rfl dX8_count_27 ?_
  refine q_goto g (-26) 4 (by decide) dX8_count_30 ?_
  refine q_lv (lv' := [(0, .ref hX8), (1, .int (i32 l1)), (2, .int (i32 x26)), (3, .int (i32 (l3 + 1)))]) [2, 3, 1, 0] rfl ?_
  exact hK_4 l1 x26 (l3 + 1) r_l1 rx26 c27 h
def wp_X8_count_118 (Q : Int → Prop) (m_ups : Int → Int) (m_found : Int) (m_sumMany : Int → Int) (m_wishes : Int) (k0 : Int) : Prop := Q k0
set_option maxHeartbeats 4000000 in
set_option maxRecDepth 100000 in
theorem s_X8_count_118 {X : Cx} (g : Gd X cX8_count RX8 (some .int) 5) (hR : X.R = rmL 1 0 0) (hX8 : Nat) (aX8_ups : Nat) (aX8_downs : Nat) (m_many : Int) (aX8_row : Nat) (m_isSpent : Int) (aX8_sumMany : Nat) (aX8_sumShares : Nat) (aX8_sumSet : Nat) (aX8_taken : Nat) (aX8_restUp : Nat) (aX8_restDown : Nat) (m_fewest : Int) (aX8_wished : Nat) (aX8_far : Nat) (aX8_queue : Nat) (m_divided : Int) (aX8_divisors : Nat) (aX8_least : Nat) (m_pairOne : Int) (m_pairTwo : Int) (m_sumUp : Int) (m_sumDown : Int) (m_ups : Int → Int) (m_found : Int) (m_sumMany : Int → Int) (m_wishes : Int) (r_m_ups : rr32 m_ups) (r_m_found : r32 m_found) (r_m_sumMany : rr32 m_sumMany) (r_m_wishes : r32 m_wishes) (Q : Int → Prop) (hF : FQ X 0 0 (po_X8_count X.cI X.cJ hX8 aX8_ups aX8_downs m_many aX8_row m_isSpent m_found aX8_sumMany aX8_sumShares aX8_sumSet aX8_taken aX8_restUp aX8_restDown m_fewest m_wishes aX8_wished aX8_far aX8_queue m_divided aX8_divisors aX8_least m_pairOne m_pairTwo m_sumUp m_sumDown m_ups m_sumMany Q)) : ∀ (k0 : Int), r32 k0 → wp_X8_count_118 Q m_ups m_found m_sumMany m_wishes k0 → Wat X 0 0 118 [] [.int (i32 k0)] [(hX8, .inr (7, [.ref aX8_ups, .ref aX8_downs, .int (i32 m_many), .ref aX8_row, .int (i32 m_isSpent), .int (i32 m_found), .ref aX8_sumMany, .ref aX8_sumShares, .ref aX8_sumSet, .ref aX8_taken, .ref aX8_restUp, .ref aX8_restDown, .int (i32 m_fewest), .int (i32 m_wishes), .ref aX8_wished, .ref aX8_far, .ref aX8_queue, .int (i32 m_divided), .ref aX8_divisors, .ref aX8_least, .long (i64 m_pairOne), .long (i64 m_pairTwo), .long (i64 m_sumUp), .long (i64 m_sumDown)])), (aX8_ups, aI X.cI 8 m_ups), (aX8_sumMany, aI X.cI 2000 m_sumMany)] := by
  intro k0 r_k0 h
  rw [wp_X8_count_118] at h
  exact q_iret g hF ⟨k0, rfl, rfl, r_k0, h⟩ dX8_count_118
def wp_X8_count_38 (Q : Int → Prop) (m_ups : Int → Int) (m_found : Int) (m_sumMany : Int → Int) (m_wishes : Int) : Nat → Int → Int → Int → Int → Prop
  | 0, _, _, _, _ => False
  | n + 1, l1, l2, l3, l4 => ((m_found ≤ l4 → ((l1 < 0 ∨ 3 < l1 → Q (-1)) ∧
  (l1 = 0 → Q l2) ∧
  (l1 = 1 → Q m_wishes) ∧
  (l1 = 2 → ((0 ≤ m_found → wp_X8_count_118 Q m_ups m_found m_sumMany m_wishes m_found) ∧
  (¬ (0 ≤ m_found) → wp_X8_count_118 Q m_ups m_found m_sumMany m_wishes 0))) ∧
  (l1 = 3 → Q l3))) ∧
  (¬ (m_found ≤ l4) → (0 ≤ l4 ∧ l4 < 2000 ∧ r32 (l3 + (m_sumMany l4)) ∧ ∀ x56 : Int, x56 = (l3 + (m_sumMany l4)) → r32 (l4 + 1) ∧ wp_X8_count_38 Q m_ups m_found m_sumMany m_wishes n l1 l2 x56 (l4 + 1))))
set_option maxHeartbeats 4000000 in
set_option maxRecDepth 100000 in
theorem s_X8_count_38 {X : Cx} (g : Gd X cX8_count RX8 (some .int) 5) (hR : X.R = rmL 1 0 0) (hX8 : Nat) (aX8_ups : Nat) (aX8_downs : Nat) (m_many : Int) (aX8_row : Nat) (m_isSpent : Int) (aX8_sumMany : Nat) (aX8_sumShares : Nat) (aX8_sumSet : Nat) (aX8_taken : Nat) (aX8_restUp : Nat) (aX8_restDown : Nat) (m_fewest : Int) (aX8_wished : Nat) (aX8_far : Nat) (aX8_queue : Nat) (m_divided : Int) (aX8_divisors : Nat) (aX8_least : Nat) (m_pairOne : Int) (m_pairTwo : Int) (m_sumUp : Int) (m_sumDown : Int) (m_ups : Int → Int) (m_found : Int) (m_sumMany : Int → Int) (m_wishes : Int) (r_m_ups : rr32 m_ups) (r_m_found : r32 m_found) (r_m_sumMany : rr32 m_sumMany) (r_m_wishes : r32 m_wishes) (Q : Int → Prop) (hF : FQ X 0 0 (po_X8_count X.cI X.cJ hX8 aX8_ups aX8_downs m_many aX8_row m_isSpent m_found aX8_sumMany aX8_sumShares aX8_sumSet aX8_taken aX8_restUp aX8_restDown m_fewest m_wishes aX8_wished aX8_far aX8_queue m_divided aX8_divisors aX8_least m_pairOne m_pairTwo m_sumUp m_sumDown m_ups m_sumMany Q)) : ∀ (n : Nat) (l1 : Int) (l2 : Int) (l3 : Int) (l4 : Int), r32 l1 → r32 l2 → r32 l3 → r32 l4 → wp_X8_count_38 Q m_ups m_found m_sumMany m_wishes n l1 l2 l3 l4 → Wat X 0 0 38 [(0, .ref hX8), (1, .int (i32 l1)), (2, .int (i32 l2)), (3, .int (i32 l3)), (4, .int (i32 l4))] [] [(hX8, .inr (7, [.ref aX8_ups, .ref aX8_downs, .int (i32 m_many), .ref aX8_row, .int (i32 m_isSpent), .int (i32 m_found), .ref aX8_sumMany, .ref aX8_sumShares, .ref aX8_sumSet, .ref aX8_taken, .ref aX8_restUp, .ref aX8_restDown, .int (i32 m_fewest), .int (i32 m_wishes), .ref aX8_wished, .ref aX8_far, .ref aX8_queue, .int (i32 m_divided), .ref aX8_divisors, .ref aX8_least, .long (i64 m_pairOne), .long (i64 m_pairTwo), .long (i64 m_sumUp), .long (i64 m_sumDown)])), (aX8_ups, aI X.cI 8 m_ups), (aX8_sumMany, aI X.cI 2000 m_sumMany)] := by
  intro n
  induction n with
  | zero => intro l1 l2 l3 l4 r_l1 r_l2 r_l3 r_l4 h; exact False.elim h
  | succ n ih =>
    intro l1 l2 l3 l4 r_l1 r_l2 r_l3 r_l4 h
    rw [wp_X8_count_38] at h
    refine q_iload g 4 4 rfl dX8_count_38 ?_
    refine q_aload_n g 0 0 rfl dX8_count_40 ?_
    refine q_get (C := RX8) (T := TX8) (N := 24) g 20 inX8 0 5 rfl rfl (by decide) wF_X8_20 rfl dX8_count_41 ?_
    refine q_icmp_ge g (19) 63 r_l4 r_m_found (by decide) dX8_count_44 (fun b44 => ?_) (fun b44 => ?_)
    · replace h := h.1 b44
      refine q_iload_n g 1 1 rfl dX8_count_63 ?_
      by_cases bo64 : l1 < 0 ∨ 3 < l1
      · replace h := h.1 bo64
        refine q_tabOut g 121 r_l1 bo64 (by decide) dX8_count_64 ?_
        refine q_iconst g (-1) dX8_count_121 ?_
        exact q_iret g hF ⟨(-1), rfl, rfl, (r32_lit _ (by decide)), h⟩ dX8_count_122
      replace h := h.2
      have bs64 : l1 = 0 ∨ l1 = 1 ∨ l1 = 2 ∨ l1 = 3 := by omega
      rcases bs64 with bs64 | bs64
      · replace h := h.1 bs64
        refine q_tabIn g 96 0 r_l1 bs64 (by decide) (by decide) rfl (by decide) dX8_count_64 ?_
        refine q_iload_n g 2 2 rfl dX8_count_96 ?_
        exact q_iret g hF ⟨l2, rfl, rfl, r_l2, h⟩ dX8_count_97
      replace h := h.2
      rcases bs64 with bs64 | bs64
      · replace h := h.1 bs64
        refine q_tabIn g 98 1 r_l1 bs64 (by decide) (by decide) rfl (by decide) dX8_count_64 ?_
        refine q_aload_n g 0 0 rfl dX8_count_98 ?_
        refine q_get (C := RX8) (T := TX8) (N := 24) g 157 inX8 0 13 rfl rfl (by decide) wF_X8_157 rfl dX8_count_99 ?_
        exact q_iret g hF ⟨m_wishes, rfl, rfl, r_m_wishes, h⟩ dX8_count_102
      replace h := h.2
      rcases bs64 with bs64 | bs64
      · replace h := h.1 bs64
        refine q_tabIn g 103 2 r_l1 bs64 (by decide) (by decide) rfl (by decide) dX8_count_64 ?_
        refine q_aload_n g 0 0 rfl dX8_count_103 ?_
        refine q_get (C := RX8) (T := TX8) (N := 24) g 20 inX8 0 5 rfl rfl (by decide) wF_X8_20 rfl dX8_count_104 ?_
        refine q_if_ge g (7) 114 r_m_found (by decide) dX8_count_107 (fun b107 => ?_) (fun b107 => ?_)
        · replace h := h.1 b107
          refine q_aload_n g 0 0 rfl dX8_count_114 ?_
          refine q_get (C := RX8) (T := TX8) (N := 24) g 20 inX8 0 5 rfl rfl (by decide) wF_X8_20 rfl dX8_count_115 ?_
          refine q_lv (lv' := []) [] rfl ?_
          exact s_X8_count_118 g hR hX8 aX8_ups aX8_downs m_many aX8_row m_isSpent aX8_sumMany aX8_sumShares aX8_sumSet aX8_taken aX8_restUp aX8_restDown m_fewest aX8_wished aX8_far aX8_queue m_divided aX8_divisors aX8_least m_pairOne m_pairTwo m_sumUp m_sumDown m_ups m_found m_sumMany m_wishes r_m_ups r_m_found r_m_sumMany r_m_wishes Q hF m_found r_m_found h
        replace h := h.2 b107
        refine q_iconst g (0) dX8_count_110 ?_
        refine q_goto g (7) 118 (by decide) dX8_count_111 ?_
        refine q_lv (lv' := []) [] rfl ?_
        exact s_X8_count_118 g hR hX8 aX8_ups aX8_downs m_many aX8_row m_isSpent aX8_sumMany aX8_sumShares aX8_sumSet aX8_taken aX8_restUp aX8_restDown m_fewest aX8_wished aX8_far aX8_queue m_divided aX8_divisors aX8_least m_pairOne m_pairTwo m_sumUp m_sumDown m_ups m_found m_sumMany m_wishes r_m_ups r_m_found r_m_sumMany r_m_wishes Q hF 0 (r32_lit _ (by decide)) h
      replace h := h.2
      replace h := h bs64
      refine q_tabIn g 119 3 r_l1 bs64 (by decide) (by decide) rfl (by decide) dX8_count_64 ?_
      refine q_iload_n g 3 3 rfl dX8_count_119 ?_
      exact q_iret g hF ⟨l3, rfl, rfl, r_l3, h⟩ dX8_count_120
    replace h := h.2 b44
    refine q_iload_n g 3 3 rfl dX8_count_47 ?_
    refine q_aload_n g 0 0 rfl dX8_count_48 ?_
    refine q_get (C := RX8) (T := TX8) (N := 24) g 24 inX8 0 6 rfl rfl (by decide) wF_X8_24 rfl dX8_count_49 ?_
    refine q_iload g 4 4 rfl dX8_count_52 ?_
    obtain ⟨c54, h⟩ := h
    obtain ⟨e54, h⟩ := h
    refine q_iald g 2 rfl c54 e54 (by decide) dX8_count_54 ?_
    obtain ⟨c55, h⟩ := h
    refine q_iadd g dX8_count_55 ?_
    refine q_topi c55 (fun x56 ex56 rx56 => ?_)
    replace h := h x56 ex56
    refine q_istore_n (lv' := [(3, .int (i32 x56)), (0, .ref hX8), (1, .int (i32 l1)), (2, .int (i32 l2)), (4, .int (i32 l4))]) g 3 3 rfl (by decide) rfl dX8_count_56 ?_
    obtain ⟨c57, h⟩ := h
    refine q_iinc (lv' := [(4, .int (i32 (l4 + 1))), (3, .int (i32 x56)), (0, .ref hX8), (1, .int (i32 l1)), (2, .int (i32 l2))]) g 4 4 1 (by decide) rfl rfl dX8_count_57 ?_
    refine q_goto g (-22) 38 (by decide) dX8_count_60 ?_
    refine q_lv (lv' := [(0, .ref hX8), (1, .int (i32 l1)), (2, .int (i32 l2)), (3, .int (i32 x56)), (4, .int (i32 (l4 + 1)))]) [2, 3, 4, 1, 0] rfl ?_
    exact ih l1 l2 x56 (l4 + 1) r_l1 r_l2 rx56 c57 h
def wp_X8_count_4 (Q : Int → Prop) (m_ups : Int → Int) (m_found : Int) (m_sumMany : Int → Int) (m_wishes : Int) : Nat → Int → Int → Int → Prop
  | 0, _, _, _ => False
  | n + 1, l1, l2, l3 => ((8 ≤ l3 → (∃ n0 : Nat, wp_X8_count_38 Q m_ups m_found m_sumMany m_wishes n0 l1 l2 0 0)) ∧
  (¬ (8 ≤ l3) → (0 ≤ l3 ∧ l3 < 8 ∧ (((m_ups l3) ≤ 0 → wp_X8_count_25 Q m_ups m_found m_sumMany m_wishes (wp_X8_count_4 Q m_ups m_found m_sumMany m_wishes n) l1 l3 l2 0) ∧
  (¬ ((m_ups l3) ≤ 0) → wp_X8_count_25 Q m_ups m_found m_sumMany m_wishes (wp_X8_count_4 Q m_ups m_found m_sumMany m_wishes n) l1 l3 l2 1)))))
set_option maxHeartbeats 4000000 in
set_option maxRecDepth 100000 in
theorem s_X8_count_4 {X : Cx} (g : Gd X cX8_count RX8 (some .int) 5) (hR : X.R = rmL 1 0 0) (hX8 : Nat) (aX8_ups : Nat) (aX8_downs : Nat) (m_many : Int) (aX8_row : Nat) (m_isSpent : Int) (aX8_sumMany : Nat) (aX8_sumShares : Nat) (aX8_sumSet : Nat) (aX8_taken : Nat) (aX8_restUp : Nat) (aX8_restDown : Nat) (m_fewest : Int) (aX8_wished : Nat) (aX8_far : Nat) (aX8_queue : Nat) (m_divided : Int) (aX8_divisors : Nat) (aX8_least : Nat) (m_pairOne : Int) (m_pairTwo : Int) (m_sumUp : Int) (m_sumDown : Int) (m_ups : Int → Int) (m_found : Int) (m_sumMany : Int → Int) (m_wishes : Int) (r_m_ups : rr32 m_ups) (r_m_found : r32 m_found) (r_m_sumMany : rr32 m_sumMany) (r_m_wishes : r32 m_wishes) (Q : Int → Prop) (hF : FQ X 0 0 (po_X8_count X.cI X.cJ hX8 aX8_ups aX8_downs m_many aX8_row m_isSpent m_found aX8_sumMany aX8_sumShares aX8_sumSet aX8_taken aX8_restUp aX8_restDown m_fewest m_wishes aX8_wished aX8_far aX8_queue m_divided aX8_divisors aX8_least m_pairOne m_pairTwo m_sumUp m_sumDown m_ups m_sumMany Q)) : ∀ (n : Nat) (l1 : Int) (l2 : Int) (l3 : Int), r32 l1 → r32 l2 → r32 l3 → wp_X8_count_4 Q m_ups m_found m_sumMany m_wishes n l1 l2 l3 → Wat X 0 0 4 [(0, .ref hX8), (1, .int (i32 l1)), (2, .int (i32 l2)), (3, .int (i32 l3))] [] [(hX8, .inr (7, [.ref aX8_ups, .ref aX8_downs, .int (i32 m_many), .ref aX8_row, .int (i32 m_isSpent), .int (i32 m_found), .ref aX8_sumMany, .ref aX8_sumShares, .ref aX8_sumSet, .ref aX8_taken, .ref aX8_restUp, .ref aX8_restDown, .int (i32 m_fewest), .int (i32 m_wishes), .ref aX8_wished, .ref aX8_far, .ref aX8_queue, .int (i32 m_divided), .ref aX8_divisors, .ref aX8_least, .long (i64 m_pairOne), .long (i64 m_pairTwo), .long (i64 m_sumUp), .long (i64 m_sumDown)])), (aX8_ups, aI X.cI 8 m_ups), (aX8_sumMany, aI X.cI 2000 m_sumMany)] := by
  intro n
  induction n with
  | zero => intro l1 l2 l3 r_l1 r_l2 r_l3 h; exact False.elim h
  | succ n ih =>
    intro l1 l2 l3 r_l1 r_l2 r_l3 h
    rw [wp_X8_count_4] at h
    refine q_iload_n g 3 3 rfl dX8_count_4 ?_
    refine q_bipush g (8) (by decide) (by decide) dX8_count_5 ?_
    refine q_icmp_ge g (26) 33 r_l3 (r32_lit _ (by decide)) (by decide) dX8_count_7 (fun b7 => ?_) (fun b7 => ?_)
    · replace h := h.1 b7
      refine q_iconst g (0) dX8_count_33 ?_
      refine q_istore_n (lv' := [(3, .int (i32 0)), (0, .ref hX8), (1, .int (i32 l1)), (2, .int (i32 l2))]) g 3 3 rfl (by decide) rfl dX8_count_34 ?_
      refine q_iconst g (0) dX8_count_35 ?_
      refine q_istore (lv' := [(4, .int (i32 0)), (3, .int (i32 0)), (0, .ref hX8), (1, .int (i32 l1)), (2, .int (i32 l2))]) g 4   (by decide) rfl dX8_count_36 ?_
      refine q_lv (lv' := [(0, .ref hX8), (1, .int (i32 l1)), (2, .int (i32 l2)), (3, .int (i32 0)), (4, .int (i32 0))]) [2, 3, 4, 1, 0] rfl ?_
      obtain ⟨n0, h⟩ := h
      exact s_X8_count_38 g hR hX8 aX8_ups aX8_downs m_many aX8_row m_isSpent aX8_sumMany aX8_sumShares aX8_sumSet aX8_taken aX8_restUp aX8_restDown m_fewest aX8_wished aX8_far aX8_queue m_divided aX8_divisors aX8_least m_pairOne m_pairTwo m_sumUp m_sumDown m_ups m_found m_sumMany m_wishes r_m_ups r_m_found r_m_sumMany r_m_wishes Q hF n0 l1 l2 0 0 r_l1 r_l2 (r32_lit _ (by decide)) (r32_lit _ (by decide)) h
    replace h := h.2 b7
    refine q_iload_n g 2 2 rfl dX8_count_10 ?_
    refine q_aload_n g 0 0 rfl dX8_count_11 ?_
    refine q_get (C := RX8) (T := TX8) (N := 24) g 7 inX8 0 0 rfl rfl (by decide) wF_X8_7 rfl dX8_count_12 ?_
    refine q_iload_n g 3 3 rfl dX8_count_15 ?_
    obtain ⟨c16, h⟩ := h
    obtain ⟨e16, h⟩ := h
    refine q_iald g 1 rfl c16 e16 (by decide) dX8_count_16 ?_
    refine q_if_le g (7) 24 (r_m_ups _) (by decide) dX8_count_17 (fun b17 => ?_) (fun b17 => ?_)
    · replace h := h.1 b17
      refine q_iconst g (0) dX8_count_24 ?_
      refine q_lv (lv' := [(0, .ref hX8), (1, .int (i32 l1)), (3, .int (i32 l3))]) [0, 1, 3] rfl ?_
      exact s_X8_count_25 g hR hX8 aX8_ups aX8_downs m_many aX8_row m_isSpent aX8_sumMany aX8_sumShares aX8_sumSet aX8_taken aX8_restUp aX8_restDown m_fewest aX8_wished aX8_far aX8_queue m_divided aX8_divisors aX8_least m_pairOne m_pairTwo m_sumUp m_sumDown m_ups m_found m_sumMany m_wishes r_m_ups r_m_found r_m_sumMany r_m_wishes Q hF (wp_X8_count_4 Q m_ups m_found m_sumMany m_wishes n) (fun v0 v1 v2 w0 w1 w2 hh => ih v0 v1 v2 w0 w1 w2 hh) l1 l3 l2 0 r_l1 r_l3 r_l2 (r32_lit _ (by decide)) h
    replace h := h.2 b17
    refine q_iconst g (1) dX8_count_20 ?_
    refine q_goto g (4) 25 (by decide) dX8_count_21 ?_
    refine q_lv (lv' := [(0, .ref hX8), (1, .int (i32 l1)), (3, .int (i32 l3))]) [0, 1, 3] rfl ?_
    exact s_X8_count_25 g hR hX8 aX8_ups aX8_downs m_many aX8_row m_isSpent aX8_sumMany aX8_sumShares aX8_sumSet aX8_taken aX8_restUp aX8_restDown m_fewest aX8_wished aX8_far aX8_queue m_divided aX8_divisors aX8_least m_pairOne m_pairTwo m_sumUp m_sumDown m_ups m_found m_sumMany m_wishes r_m_ups r_m_found r_m_sumMany r_m_wishes Q hF (wp_X8_count_4 Q m_ups m_found m_sumMany m_wishes n) (fun v0 v1 v2 w0 w1 w2 hh => ih v0 v1 v2 w0 w1 w2 hh) l1 l3 l2 1 r_l1 r_l3 r_l2 (r32_lit _ (by decide)) h
def wp_X8_count (Q : Int → Prop) (m_ups : Int → Int) (m_found : Int) (m_sumMany : Int → Int) (m_wishes : Int) (l1 : Int) : Prop := (∃ n0 : Nat, wp_X8_count_4 Q m_ups m_found m_sumMany m_wishes n0 l1 0 0)
set_option maxHeartbeats 4000000 in
set_option maxRecDepth 100000 in
theorem c_X8_count (l : Launch) (D : va_G) (cI cJ : ClassId) (zt : Nat) (hX8 : Nat) (aX8_ups : Nat) (aX8_downs : Nat) (m_many : Int) (aX8_row : Nat) (m_isSpent : Int) (m_found : Int) (aX8_sumMany : Nat) (aX8_sumShares : Nat) (aX8_sumSet : Nat) (aX8_taken : Nat) (aX8_restUp : Nat) (aX8_restDown : Nat) (m_fewest : Int) (m_wishes : Int) (aX8_wished : Nat) (aX8_far : Nat) (aX8_queue : Nat) (m_divided : Int) (aX8_divisors : Nat) (aX8_least : Nat) (m_pairOne : Int) (m_pairTwo : Int) (m_sumUp : Int) (m_sumDown : Int) (m_ups : Int → Int) (m_sumMany : Int → Int) (l1 : Int) (Q : Int → Prop) (r_m_ups : rr32 m_ups) (r_m_found : r32 m_found) (r_m_sumMany : rr32 m_sumMany) (r_m_wishes : r32 m_wishes) (r_l1 : r32 l1) (h : wp_X8_count Q m_ups m_found m_sumMany m_wishes l1) : Ct l D cI cJ zt yX8_count cX8_count 5 (some .int) 1 0 0 [.ref hX8, .int (i32 l1)] [(hX8, .inr (7, [.ref aX8_ups, .ref aX8_downs, .int (i32 m_many), .ref aX8_row, .int (i32 m_isSpent), .int (i32 m_found), .ref aX8_sumMany, .ref aX8_sumShares, .ref aX8_sumSet, .ref aX8_taken, .ref aX8_restUp, .ref aX8_restDown, .int (i32 m_fewest), .int (i32 m_wishes), .ref aX8_wished, .ref aX8_far, .ref aX8_queue, .int (i32 m_divided), .ref aX8_divisors, .ref aX8_least, .long (i64 m_pairOne), .long (i64 m_pairTwo), .long (i64 m_sumUp), .long (i64 m_sumDown)])), (aX8_ups, aI cI 8 m_ups), (aX8_sumMany, aI cI 2000 m_sumMany)] (po_X8_count cI cJ hX8 aX8_ups aX8_downs m_many aX8_row m_isSpent m_found aX8_sumMany aX8_sumShares aX8_sumSet aX8_taken aX8_restUp aX8_restDown m_fewest m_wishes aX8_wished aX8_far aX8_queue m_divided aX8_divisors aX8_least m_pairOne m_pairTwo m_sumUp m_sumDown m_ups m_sumMany Q) := by
  refine ct_of (by decide +kernel) (Nat.le_of_ble_eq_true rfl) (fun X hl hDD hcI hcJ hzt hR hF hnm g => ?_)
  subst hl; subst hDD; subst hcI; subst hcJ; subst hzt
  show Wat X 0 0 0 [(0, .ref hX8), (1, .int (i32 l1))] [] [(hX8, .inr (7, [.ref aX8_ups, .ref aX8_downs, .int (i32 m_many), .ref aX8_row, .int (i32 m_isSpent), .int (i32 m_found), .ref aX8_sumMany, .ref aX8_sumShares, .ref aX8_sumSet, .ref aX8_taken, .ref aX8_restUp, .ref aX8_restDown, .int (i32 m_fewest), .int (i32 m_wishes), .ref aX8_wished, .ref aX8_far, .ref aX8_queue, .int (i32 m_divided), .ref aX8_divisors, .ref aX8_least, .long (i64 m_pairOne), .long (i64 m_pairTwo), .long (i64 m_sumUp), .long (i64 m_sumDown)])), (aX8_ups, aI X.cI 8 m_ups), (aX8_sumMany, aI X.cI 2000 m_sumMany)]
  replace g : Gd X cX8_count RX8 (some .int) 5 := g
  rw [wp_X8_count] at h
  refine q_iconst g (0) dX8_count_0 ?_
  refine q_istore_n (lv' := [(2, .int (i32 0)), (0, .ref hX8), (1, .int (i32 l1))]) g 2 2 rfl (by decide) rfl dX8_count_1 ?_
  refine q_iconst g (0) dX8_count_2 ?_
  refine q_istore_n (lv' := [(3, .int (i32 0)), (2, .int (i32 0)), (0, .ref hX8), (1, .int (i32 l1))]) g 3 3 rfl (by decide) rfl dX8_count_3 ?_
  refine q_lv (lv' := [(0, .ref hX8), (1, .int (i32 l1)), (2, .int (i32 0)), (3, .int (i32 0))]) [2, 3, 1, 0] rfl ?_
  obtain ⟨n0, h⟩ := h
  exact s_X8_count_4 g hR hX8 aX8_ups aX8_downs m_many aX8_row m_isSpent aX8_sumMany aX8_sumShares aX8_sumSet aX8_taken aX8_restUp aX8_restDown m_fewest aX8_wished aX8_far aX8_queue m_divided aX8_divisors aX8_least m_pairOne m_pairTwo m_sumUp m_sumDown m_ups m_found m_sumMany m_wishes r_m_ups r_m_found r_m_sumMany r_m_wishes Q hF n0 l1 0 0 r_l1 (r32_lit _ (by decide)) (r32_lit _ (by decide)) h
theorem dX8_put_0 : decode cX8_put 0 = .ok (.aload_n 0, 1) := by decide +kernel
theorem dX8_put_1 : decode cX8_put 1 = .ok (.aload_n 0, 1) := by decide +kernel
theorem dX8_put_2 : decode cX8_put 2 = .ok (.getfield 80, 3) := by decide +kernel
theorem dX8_put_5 : decode cX8_put 5 = .ok (.ifCond .ne 20, 3) := by decide +kernel
theorem dX8_put_8 : decode cX8_put 8 = .ok (.aload_n 0, 1) := by decide +kernel
theorem dX8_put_9 : decode cX8_put 9 = .ok (.getfield 84, 3) := by decide +kernel
theorem dX8_put_12 : decode cX8_put 12 = .ok (.bipush 16, 2) := by decide +kernel
theorem dX8_put_14 : decode cX8_put 14 = .ok (.if_icmp .eq 11, 3) := by decide +kernel
theorem dX8_put_17 : decode cX8_put 17 = .ok (.lload_n 1, 1) := by decide +kernel
theorem dX8_put_18 : decode cX8_put 18 = .ok (.ldc2_w 87, 3) := by decide +kernel
theorem dX8_put_21 : decode cX8_put 21 = .ok (.lcmp, 1) := by decide +kernel
theorem dX8_put_22 : decode cX8_put 22 = .ok (.ifCond .le 7, 3) := by decide +kernel
theorem dX8_put_25 : decode cX8_put 25 = .ok (.iconst 1, 1) := by decide +kernel
theorem dX8_put_26 : decode cX8_put 26 = .ok (.goto 4, 3) := by decide +kernel
theorem dX8_put_29 : decode cX8_put 29 = .ok (.iconst 0, 1) := by decide +kernel
theorem dX8_put_30 : decode cX8_put 30 = .ok (.putfield 80, 3) := by decide +kernel
theorem dX8_put_33 : decode cX8_put 33 = .ok (.aload_n 0, 1) := by decide +kernel
theorem dX8_put_34 : decode cX8_put 34 = .ok (.getfield 80, 3) := by decide +kernel
theorem dX8_put_37 : decode cX8_put 37 = .ok (.ifCond .ne 23, 3) := by decide +kernel
theorem dX8_put_40 : decode cX8_put 40 = .ok (.aload_n 0, 1) := by decide +kernel
theorem dX8_put_41 : decode cX8_put 41 = .ok (.getfield 16, 3) := by decide +kernel
theorem dX8_put_44 : decode cX8_put 44 = .ok (.aload_n 0, 1) := by decide +kernel
theorem dX8_put_45 : decode cX8_put 45 = .ok (.getfield 84, 3) := by decide +kernel
theorem dX8_put_48 : decode cX8_put 48 = .ok (.lload_n 1, 1) := by decide +kernel
theorem dX8_put_49 : decode cX8_put 49 = .ok (.lastore, 1) := by decide +kernel
theorem dX8_put_50 : decode cX8_put 50 = .ok (.aload_n 0, 1) := by decide +kernel
theorem dX8_put_51 : decode cX8_put 51 = .ok (.dup, 1) := by decide +kernel
theorem dX8_put_52 : decode cX8_put 52 = .ok (.getfield 84, 3) := by decide +kernel
theorem dX8_put_55 : decode cX8_put 55 = .ok (.iconst 1, 1) := by decide +kernel
theorem dX8_put_56 : decode cX8_put 56 = .ok (.iadd, 1) := by decide +kernel
theorem dX8_put_57 : decode cX8_put 57 = .ok (.putfield 84, 3) := by decide +kernel
theorem dX8_put_60 : decode cX8_put 60 = .ok (.return_, 1) := by decide +kernel
abbrev po_X8_put (cI cJ : ClassId) (hX8 : Nat) (aX8_ups : Nat) (aX8_downs : Nat) (aX8_row : Nat) (m_found : Int) (aX8_sumMany : Nat) (aX8_sumShares : Nat) (aX8_sumSet : Nat) (aX8_taken : Nat) (aX8_restUp : Nat) (aX8_restDown : Nat) (m_fewest : Int) (m_wishes : Int) (aX8_wished : Nat) (aX8_far : Nat) (aX8_queue : Nat) (m_divided : Int) (aX8_divisors : Nat) (aX8_least : Nat) (m_pairOne : Int) (m_pairTwo : Int) (m_sumUp : Int) (m_sumDown : Int) (Q : Int → (Int → Int) → Int → Prop) : Option Value → va_W → Prop := fun rv w1 => ∃ (m_many : Int) (m_row : Int → Int) (m_isSpent : Int), rv = none ∧ w1 = [(hX8, .inr (7, [.ref aX8_ups, .ref aX8_downs, .int (i32 m_many), .ref aX8_row, .int (i32 m_isSpent), .int (i32 m_found), .ref aX8_sumMany, .ref aX8_sumShares, .ref aX8_sumSet, .ref aX8_taken, .ref aX8_restUp, .ref aX8_restDown, .int (i32 m_fewest), .int (i32 m_wishes), .ref aX8_wished, .ref aX8_far, .ref aX8_queue, .int (i32 m_divided), .ref aX8_divisors, .ref aX8_least, .long (i64 m_pairOne), .long (i64 m_pairTwo), .long (i64 m_sumUp), .long (i64 m_sumDown)])), (aX8_row, aL cJ 17 m_row)] ∧ r32 m_many ∧ rr64 m_row ∧ r32 m_isSpent ∧ Q m_many m_row m_isSpent
def wp_X8_put_60 (Q : Int → (Int → Int) → Int → Prop) (m_many : Int) (m_row : Int → Int) (m_isSpent : Int) : Prop := Q m_many m_row m_isSpent
set_option maxHeartbeats 4000000 in
set_option maxRecDepth 100000 in
theorem s_X8_put_60 {X : Cx} (g : Gd X cX8_put RX8 none 3) (hR : X.R = rmL 1 0 0) (hX8 : Nat) (aX8_ups : Nat) (aX8_downs : Nat) (aX8_row : Nat) (m_found : Int) (aX8_sumMany : Nat) (aX8_sumShares : Nat) (aX8_sumSet : Nat) (aX8_taken : Nat) (aX8_restUp : Nat) (aX8_restDown : Nat) (m_fewest : Int) (m_wishes : Int) (aX8_wished : Nat) (aX8_far : Nat) (aX8_queue : Nat) (m_divided : Int) (aX8_divisors : Nat) (aX8_least : Nat) (m_pairOne : Int) (m_pairTwo : Int) (m_sumUp : Int) (m_sumDown : Int) (Q : Int → (Int → Int) → Int → Prop) (hF : FQ X 0 0 (po_X8_put X.cI X.cJ hX8 aX8_ups aX8_downs aX8_row m_found aX8_sumMany aX8_sumShares aX8_sumSet aX8_taken aX8_restUp aX8_restDown m_fewest m_wishes aX8_wished aX8_far aX8_queue m_divided aX8_divisors aX8_least m_pairOne m_pairTwo m_sumUp m_sumDown Q)) : ∀ (m_many : Int) (m_row : Int → Int) (m_isSpent : Int), r32 m_many → rr64 m_row → r32 m_isSpent → wp_X8_put_60 Q m_many m_row m_isSpent → Wat X 0 0 60 [] [] [(hX8, .inr (7, [.ref aX8_ups, .ref aX8_downs, .int (i32 m_many), .ref aX8_row, .int (i32 m_isSpent), .int (i32 m_found), .ref aX8_sumMany, .ref aX8_sumShares, .ref aX8_sumSet, .ref aX8_taken, .ref aX8_restUp, .ref aX8_restDown, .int (i32 m_fewest), .int (i32 m_wishes), .ref aX8_wished, .ref aX8_far, .ref aX8_queue, .int (i32 m_divided), .ref aX8_divisors, .ref aX8_least, .long (i64 m_pairOne), .long (i64 m_pairTwo), .long (i64 m_sumUp), .long (i64 m_sumDown)])), (aX8_row, aL X.cJ 17 m_row)] := by
  intro m_many m_row m_isSpent r_m_many r_m_row r_m_isSpent h
  rw [wp_X8_put_60] at h
  exact q_vret g hF ⟨m_many, m_row, m_isSpent, rfl, rfl, r_m_many, r_m_row, r_m_isSpent, h⟩ dX8_put_60
def wp_X8_put_30 (Q : Int → (Int → Int) → Int → Prop) (m_many : Int) (m_row : Int → Int) (m_isSpent : Int) (l1 : Int) (k1 : Int) : Prop := ((k1 = 0 ∨ k1 = 1) ∧ ((¬ k1 = 0 → wp_X8_put_60 Q m_many m_row k1) ∧
  (k1 = 0 → (0 ≤ m_many ∧ m_many < 17 ∧ r32 (m_many + 1) ∧ ∀ x57 : Int, x57 = (m_many + 1) → wp_X8_put_60 Q x57 (ups m_row m_many l1) k1))))
set_option maxHeartbeats 4000000 in
set_option maxRecDepth 100000 in
theorem s_X8_put_30 {X : Cx} (g : Gd X cX8_put RX8 none 3) (hR : X.R = rmL 1 0 0) (hX8 : Nat) (aX8_ups : Nat) (aX8_downs : Nat) (aX8_row : Nat) (m_found : Int) (aX8_sumMany : Nat) (aX8_sumShares : Nat) (aX8_sumSet : Nat) (aX8_taken : Nat) (aX8_restUp : Nat) (aX8_restDown : Nat) (m_fewest : Int) (m_wishes : Int) (aX8_wished : Nat) (aX8_far : Nat) (aX8_queue : Nat) (m_divided : Int) (aX8_divisors : Nat) (aX8_least : Nat) (m_pairOne : Int) (m_pairTwo : Int) (m_sumUp : Int) (m_sumDown : Int) (Q : Int → (Int → Int) → Int → Prop) (hF : FQ X 0 0 (po_X8_put X.cI X.cJ hX8 aX8_ups aX8_downs aX8_row m_found aX8_sumMany aX8_sumShares aX8_sumSet aX8_taken aX8_restUp aX8_restDown m_fewest m_wishes aX8_wished aX8_far aX8_queue m_divided aX8_divisors aX8_least m_pairOne m_pairTwo m_sumUp m_sumDown Q)) : ∀ (m_many : Int) (m_row : Int → Int) (m_isSpent : Int) (l1 : Int) (k1 : Int), r32 m_many → rr64 m_row → r32 m_isSpent → r64 l1 → r32 k1 → wp_X8_put_30 Q m_many m_row m_isSpent l1 k1 → Wat X 0 0 30 [(0, .ref hX8), (1, .long (i64 l1))] [.int (i32 k1), .ref hX8] [(hX8, .inr (7, [.ref aX8_ups, .ref aX8_downs, .int (i32 m_many), .ref aX8_row, .int (i32 m_isSpent), .int (i32 m_found), .ref aX8_sumMany, .ref aX8_sumShares, .ref aX8_sumSet, .ref aX8_taken, .ref aX8_restUp, .ref aX8_restDown, .int (i32 m_fewest), .int (i32 m_wishes), .ref aX8_wished, .ref aX8_far, .ref aX8_queue, .int (i32 m_divided), .ref aX8_divisors, .ref aX8_least, .long (i64 m_pairOne), .long (i64 m_pairTwo), .long (i64 m_sumUp), .long (i64 m_sumDown)])), (aX8_row, aL X.cJ 17 m_row)] := by
  intro m_many m_row m_isSpent l1 k1 r_m_many r_m_row r_m_isSpent r_l1 r_k1 h
  rw [wp_X8_put_30] at h
  obtain ⟨z30, h⟩ := h
  refine q_put (C := RX8) (T := TX8) (N := 24) (ty := .boolean) (ws' := [(hX8, .inr (7, [.ref aX8_ups, .ref aX8_downs, .int (i32 m_many), .ref aX8_row, .int (i32 k1), .int (i32 m_found), .ref aX8_sumMany, .ref aX8_sumShares, .ref aX8_sumSet, .ref aX8_taken, .ref aX8_restUp, .ref aX8_restDown, .int (i32 m_fewest), .int (i32 m_wishes), .ref aX8_wished, .ref aX8_far, .ref aX8_queue, .int (i32 m_divided), .ref aX8_divisors, .ref aX8_least, .long (i64 m_pairOne), .long (i64 m_pairTwo), .long (i64 m_sumUp), .long (i64 m_sumDown)])), (aX8_row, aL X.cJ 17 m_row)]) g 80 inX8 tyX8_ok nmX8 0 4 rfl rfl (by decide) wF_X8_80 rfl rfl (zb_n z30) (zb_f z30) (Nat.le_of_ble_eq_true rfl) rfl dX8_put_30 ?_
  refine q_aload_n g 0 0 rfl dX8_put_33 ?_
  refine q_get (C := RX8) (T := TX8) (N := 24) g 80 inX8 0 4 rfl rfl (by decide) wF_X8_80 rfl dX8_put_34 ?_
  refine q_if_ne g (23) 60 r_k1 (by decide) dX8_put_37 (fun b37 => ?_) (fun b37 => ?_)
  · replace h := h.1 b37
    refine q_lv (lv' := []) [] rfl ?_
    exact s_X8_put_60 g hR hX8 aX8_ups aX8_downs aX8_row m_found aX8_sumMany aX8_sumShares aX8_sumSet aX8_taken aX8_restUp aX8_restDown m_fewest m_wishes aX8_wished aX8_far aX8_queue m_divided aX8_divisors aX8_least m_pairOne m_pairTwo m_sumUp m_sumDown Q hF m_many m_row k1 r_m_many r_m_row r_k1 h
  replace h := h.2 b37
  refine q_aload_n g 0 0 rfl dX8_put_40 ?_
  refine q_get (C := RX8) (T := TX8) (N := 24) g 16 inX8 0 3 rfl rfl (by decide) wF_X8_16 rfl dX8_put_41 ?_
  refine q_aload_n g 0 0 rfl dX8_put_44 ?_
  refine q_get (C := RX8) (T := TX8) (N := 24) g 84 inX8 0 2 rfl rfl (by decide) wF_X8_84 rfl dX8_put_45 ?_
  refine q_lload_n g 1 1 rfl dX8_put_48 ?_
  obtain ⟨c49, h⟩ := h
  obtain ⟨e49, h⟩ := h
  refine q_last (ws' := [(hX8, .inr (7, [.ref aX8_ups, .ref aX8_downs, .int (i32 m_many), .ref aX8_row, .int (i32 k1), .int (i32 m_found), .ref aX8_sumMany, .ref aX8_sumShares, .ref aX8_sumSet, .ref aX8_taken, .ref aX8_restUp, .ref aX8_restDown, .int (i32 m_fewest), .int (i32 m_wishes), .ref aX8_wished, .ref aX8_far, .ref aX8_queue, .int (i32 m_divided), .ref aX8_divisors, .ref aX8_least, .long (i64 m_pairOne), .long (i64 m_pairTwo), .long (i64 m_sumUp), .long (i64 m_sumDown)])), (aX8_row, aL X.cJ 17 (ups m_row m_many l1))]) g 1 rfl c49 e49 (by decide) rfl dX8_put_49 ?_
  refine q_aload_n g 0 0 rfl dX8_put_50 ?_
  refine q_dup g rfl dX8_put_51 ?_
  refine q_get (C := RX8) (T := TX8) (N := 24) g 84 inX8 0 2 rfl rfl (by decide) wF_X8_84 rfl dX8_put_52 ?_
  refine q_iconst g (1) dX8_put_55 ?_
  obtain ⟨c56, h⟩ := h
  refine q_iadd g dX8_put_56 ?_
  refine q_topi c56 (fun x57 ex57 rx57 => ?_)
  replace h := h x57 ex57
  refine q_put (C := RX8) (T := TX8) (N := 24) (ty := .int) (ws' := [(hX8, .inr (7, [.ref aX8_ups, .ref aX8_downs, .int (i32 x57), .ref aX8_row, .int (i32 k1), .int (i32 m_found), .ref aX8_sumMany, .ref aX8_sumShares, .ref aX8_sumSet, .ref aX8_taken, .ref aX8_restUp, .ref aX8_restDown, .int (i32 m_fewest), .int (i32 m_wishes), .ref aX8_wished, .ref aX8_far, .ref aX8_queue, .int (i32 m_divided), .ref aX8_divisors, .ref aX8_least, .long (i64 m_pairOne), .long (i64 m_pairTwo), .long (i64 m_sumUp), .long (i64 m_sumDown)])), (aX8_row, aL X.cJ 17 (ups m_row m_many l1))]) g 84 inX8 tyX8_ok nmX8 0 2 rfl rfl (by decide) wF_X8_84 rfl rfl rfl rfl (Nat.le_of_ble_eq_true rfl) rfl dX8_put_57 ?_
  refine q_lv (lv' := []) [] rfl ?_
  exact s_X8_put_60 g hR hX8 aX8_ups aX8_downs aX8_row m_found aX8_sumMany aX8_sumShares aX8_sumSet aX8_taken aX8_restUp aX8_restDown m_fewest m_wishes aX8_wished aX8_far aX8_queue m_divided aX8_divisors aX8_least m_pairOne m_pairTwo m_sumUp m_sumDown Q hF x57 (ups m_row m_many l1) k1 rx57 (rr64_u r_m_row r_l1) r_k1 h
def wp_X8_put_25 (Q : Int → (Int → Int) → Int → Prop) (m_many : Int) (m_row : Int → Int) (m_isSpent : Int) (l1 : Int) : Prop := wp_X8_put_30 Q m_many m_row m_isSpent l1 1
set_option maxHeartbeats 4000000 in
set_option maxRecDepth 100000 in
theorem s_X8_put_25 {X : Cx} (g : Gd X cX8_put RX8 none 3) (hR : X.R = rmL 1 0 0) (hX8 : Nat) (aX8_ups : Nat) (aX8_downs : Nat) (aX8_row : Nat) (m_found : Int) (aX8_sumMany : Nat) (aX8_sumShares : Nat) (aX8_sumSet : Nat) (aX8_taken : Nat) (aX8_restUp : Nat) (aX8_restDown : Nat) (m_fewest : Int) (m_wishes : Int) (aX8_wished : Nat) (aX8_far : Nat) (aX8_queue : Nat) (m_divided : Int) (aX8_divisors : Nat) (aX8_least : Nat) (m_pairOne : Int) (m_pairTwo : Int) (m_sumUp : Int) (m_sumDown : Int) (Q : Int → (Int → Int) → Int → Prop) (hF : FQ X 0 0 (po_X8_put X.cI X.cJ hX8 aX8_ups aX8_downs aX8_row m_found aX8_sumMany aX8_sumShares aX8_sumSet aX8_taken aX8_restUp aX8_restDown m_fewest m_wishes aX8_wished aX8_far aX8_queue m_divided aX8_divisors aX8_least m_pairOne m_pairTwo m_sumUp m_sumDown Q)) : ∀ (m_many : Int) (m_row : Int → Int) (m_isSpent : Int) (l1 : Int), r32 m_many → rr64 m_row → r32 m_isSpent → r64 l1 → wp_X8_put_25 Q m_many m_row m_isSpent l1 → Wat X 0 0 25 [(0, .ref hX8), (1, .long (i64 l1))] [.ref hX8] [(hX8, .inr (7, [.ref aX8_ups, .ref aX8_downs, .int (i32 m_many), .ref aX8_row, .int (i32 m_isSpent), .int (i32 m_found), .ref aX8_sumMany, .ref aX8_sumShares, .ref aX8_sumSet, .ref aX8_taken, .ref aX8_restUp, .ref aX8_restDown, .int (i32 m_fewest), .int (i32 m_wishes), .ref aX8_wished, .ref aX8_far, .ref aX8_queue, .int (i32 m_divided), .ref aX8_divisors, .ref aX8_least, .long (i64 m_pairOne), .long (i64 m_pairTwo), .long (i64 m_sumUp), .long (i64 m_sumDown)])), (aX8_row, aL X.cJ 17 m_row)] := by
  intro m_many m_row m_isSpent l1 r_m_many r_m_row r_m_isSpent r_l1 h
  rw [wp_X8_put_25] at h
  refine q_iconst g (1) dX8_put_25 ?_
  refine q_goto g (4) 30 (by decide) dX8_put_26 ?_
  exact s_X8_put_30 g hR hX8 aX8_ups aX8_downs aX8_row m_found aX8_sumMany aX8_sumShares aX8_sumSet aX8_taken aX8_restUp aX8_restDown m_fewest m_wishes aX8_wished aX8_far aX8_queue m_divided aX8_divisors aX8_least m_pairOne m_pairTwo m_sumUp m_sumDown Q hF m_many m_row m_isSpent l1 1 r_m_many r_m_row r_m_isSpent r_l1 (r32_lit _ (by decide)) h
def wp_X8_put (Q : Int → (Int → Int) → Int → Prop) (m_many : Int) (m_row : Int → Int) (m_isSpent : Int) (l1 : Int) : Prop := ((¬ m_isSpent = 0 → wp_X8_put_25 Q m_many m_row m_isSpent l1) ∧
  (m_isSpent = 0 → ((m_many = 16 → wp_X8_put_25 Q m_many m_row m_isSpent l1) ∧
  (¬ (m_many = 16) → ((l1 ≤ 1000000000000 → wp_X8_put_30 Q m_many m_row m_isSpent l1 0) ∧
  (¬ (l1 ≤ 1000000000000) → wp_X8_put_25 Q m_many m_row m_isSpent l1))))))
set_option maxHeartbeats 4000000 in
set_option maxRecDepth 100000 in
theorem c_X8_put (l : Launch) (D : va_G) (cI cJ : ClassId) (zt : Nat) (hX8 : Nat) (aX8_ups : Nat) (aX8_downs : Nat) (m_many : Int) (aX8_row : Nat) (m_isSpent : Int) (m_found : Int) (aX8_sumMany : Nat) (aX8_sumShares : Nat) (aX8_sumSet : Nat) (aX8_taken : Nat) (aX8_restUp : Nat) (aX8_restDown : Nat) (m_fewest : Int) (m_wishes : Int) (aX8_wished : Nat) (aX8_far : Nat) (aX8_queue : Nat) (m_divided : Int) (aX8_divisors : Nat) (aX8_least : Nat) (m_pairOne : Int) (m_pairTwo : Int) (m_sumUp : Int) (m_sumDown : Int) (m_row : Int → Int) (l1 : Int) (Q : Int → (Int → Int) → Int → Prop) (r_m_many : r32 m_many) (r_m_row : rr64 m_row) (r_m_isSpent : r32 m_isSpent) (r_l1 : r64 l1) (h : wp_X8_put Q m_many m_row m_isSpent l1) : Ct l D cI cJ zt yX8_put cX8_put 3 none 1 0 0 [.ref hX8, .long (i64 l1)] [(hX8, .inr (7, [.ref aX8_ups, .ref aX8_downs, .int (i32 m_many), .ref aX8_row, .int (i32 m_isSpent), .int (i32 m_found), .ref aX8_sumMany, .ref aX8_sumShares, .ref aX8_sumSet, .ref aX8_taken, .ref aX8_restUp, .ref aX8_restDown, .int (i32 m_fewest), .int (i32 m_wishes), .ref aX8_wished, .ref aX8_far, .ref aX8_queue, .int (i32 m_divided), .ref aX8_divisors, .ref aX8_least, .long (i64 m_pairOne), .long (i64 m_pairTwo), .long (i64 m_sumUp), .long (i64 m_sumDown)])), (aX8_row, aL cJ 17 m_row)] (po_X8_put cI cJ hX8 aX8_ups aX8_downs aX8_row m_found aX8_sumMany aX8_sumShares aX8_sumSet aX8_taken aX8_restUp aX8_restDown m_fewest m_wishes aX8_wished aX8_far aX8_queue m_divided aX8_divisors aX8_least m_pairOne m_pairTwo m_sumUp m_sumDown Q) := by
  refine ct_of (by decide +kernel) (Nat.le_of_ble_eq_true rfl) (fun X hl hDD hcI hcJ hzt hR hF hnm g => ?_)
  subst hl; subst hDD; subst hcI; subst hcJ; subst hzt
  show Wat X 0 0 0 [(0, .ref hX8), (1, .long (i64 l1))] [] [(hX8, .inr (7, [.ref aX8_ups, .ref aX8_downs, .int (i32 m_many), .ref aX8_row, .int (i32 m_isSpent), .int (i32 m_found), .ref aX8_sumMany, .ref aX8_sumShares, .ref aX8_sumSet, .ref aX8_taken, .ref aX8_restUp, .ref aX8_restDown, .int (i32 m_fewest), .int (i32 m_wishes), .ref aX8_wished, .ref aX8_far, .ref aX8_queue, .int (i32 m_divided), .ref aX8_divisors, .ref aX8_least, .long (i64 m_pairOne), .long (i64 m_pairTwo), .long (i64 m_sumUp), .long (i64 m_sumDown)])), (aX8_row, aL X.cJ 17 m_row)]
  replace g : Gd X cX8_put RX8 none 3 := g
  rw [wp_X8_put] at h
  refine q_aload_n g 0 0 rfl dX8_put_0 ?_
  refine q_aload_n g 0 0 rfl dX8_put_1 ?_
  refine q_get (C := RX8) (T := TX8) (N := 24) g 80 inX8 0 4 rfl rfl (by decide) wF_X8_80 rfl dX8_put_2 ?_
  refine q_if_ne g (20) 25 r_m_isSpent (by decide) dX8_put_5 (fun b5 => ?_) (fun b5 => ?_)
  · replace h := h.1 b5
    exact s_X8_put_25 g hR hX8 aX8_ups aX8_downs aX8_row m_found aX8_sumMany aX8_sumShares aX8_sumSet aX8_taken aX8_restUp aX8_restDown m_fewest m_wishes aX8_wished aX8_far aX8_queue m_divided aX8_divisors aX8_least m_pairOne m_pairTwo m_sumUp m_sumDown Q hF m_many m_row m_isSpent l1 r_m_many r_m_row r_m_isSpent r_l1 h
  replace h := h.2 b5
  refine q_aload_n g 0 0 rfl dX8_put_8 ?_
  refine q_get (C := RX8) (T := TX8) (N := 24) g 84 inX8 0 2 rfl rfl (by decide) wF_X8_84 rfl dX8_put_9 ?_
  refine q_bipush g (16) (by decide) (by decide) dX8_put_12 ?_
  refine q_icmp_eq g (11) 25 r_m_many (r32_lit _ (by decide)) (by decide) dX8_put_14 (fun b14 => ?_) (fun b14 => ?_)
  · replace h := h.1 b14
    exact s_X8_put_25 g hR hX8 aX8_ups aX8_downs aX8_row m_found aX8_sumMany aX8_sumShares aX8_sumSet aX8_taken aX8_restUp aX8_restDown m_fewest m_wishes aX8_wished aX8_far aX8_queue m_divided aX8_divisors aX8_least m_pairOne m_pairTwo m_sumUp m_sumDown Q hF m_many m_row m_isSpent l1 r_m_many r_m_row r_m_isSpent r_l1 h
  replace h := h.2 b14
  refine q_lload_n g 1 1 rfl dX8_put_17 ?_
  refine q_ldc2 (w := 1000000000000) g 87 (1000000000000) (by decide +kernel) wL_X8_87 dX8_put_18 ?_
  refine q_lcmp_le g (7) 29 r_l1 (r64_lit _ (by decide)) (by decide) dX8_put_21 dX8_put_22 (fun b21 => ?_) (fun b21 => ?_)
  · replace h := h.1 b21
    refine q_iconst g (0) dX8_put_29 ?_
    exact s_X8_put_30 g hR hX8 aX8_ups aX8_downs aX8_row m_found aX8_sumMany aX8_sumShares aX8_sumSet aX8_taken aX8_restUp aX8_restDown m_fewest m_wishes aX8_wished aX8_far aX8_queue m_divided aX8_divisors aX8_least m_pairOne m_pairTwo m_sumUp m_sumDown Q hF m_many m_row m_isSpent l1 0 r_m_many r_m_row r_m_isSpent r_l1 (r32_lit _ (by decide)) h
  replace h := h.2 b21
  exact s_X8_put_25 g hR hX8 aX8_ups aX8_downs aX8_row m_found aX8_sumMany aX8_sumShares aX8_sumSet aX8_taken aX8_restUp aX8_restDown m_fewest m_wishes aX8_wished aX8_far aX8_queue m_divided aX8_divisors aX8_least m_pairOne m_pairTwo m_sumUp m_sumDown Q hF m_many m_row m_isSpent l1 r_m_many r_m_row r_m_isSpent r_l1 h
theorem dX8_twice_0 : decode cX8_twice 0 = .ok (.bipush (-4), 2) := by decide +kernel
theorem dX8_twice_2 : decode cX8_twice 2 = .ok (.istore_n 1, 1) := by decide +kernel
theorem dX8_twice_3 : decode cX8_twice 3 = .ok (.iconst 0, 1) := by decide +kernel
theorem dX8_twice_4 : decode cX8_twice 4 = .ok (.istore_n 2, 1) := by decide +kernel
theorem dX8_twice_5 : decode cX8_twice 5 = .ok (.iload_n 2, 1) := by decide +kernel
theorem dX8_twice_6 : decode cX8_twice 6 = .ok (.aload_n 0, 1) := by decide +kernel
theorem dX8_twice_7 : decode cX8_twice 7 = .ok (.getfield 84, 3) := by decide +kernel
theorem dX8_twice_10 : decode cX8_twice 10 = .ok (.if_icmp .ge 92, 3) := by decide +kernel
theorem dX8_twice_13 : decode cX8_twice 13 = .ok (.iconst 0, 1) := by decide +kernel
theorem dX8_twice_14 : decode cX8_twice 14 = .ok (.istore_n 3, 1) := by decide +kernel
theorem dX8_twice_15 : decode cX8_twice 15 = .ok (.iconst 0, 1) := by decide +kernel
theorem dX8_twice_16 : decode cX8_twice 16 = .ok (.istore 4, 2) := by decide +kernel
theorem dX8_twice_18 : decode cX8_twice 18 = .ok (.iload 4, 2) := by decide +kernel
theorem dX8_twice_20 : decode cX8_twice 20 = .ok (.aload_n 0, 1) := by decide +kernel
theorem dX8_twice_21 : decode cX8_twice 21 = .ok (.getfield 84, 3) := by decide +kernel
theorem dX8_twice_24 : decode cX8_twice 24 = .ok (.if_icmp .ge 42, 3) := by decide +kernel
theorem dX8_twice_27 : decode cX8_twice 27 = .ok (.iload_n 3, 1) := by decide +kernel
theorem dX8_twice_28 : decode cX8_twice 28 = .ok (.ifCond .ne 26, 3) := by decide +kernel
theorem dX8_twice_31 : decode cX8_twice 31 = .ok (.iload 4, 2) := by decide +kernel
theorem dX8_twice_33 : decode cX8_twice 33 = .ok (.iload_n 2, 1) := by decide +kernel
theorem dX8_twice_34 : decode cX8_twice 34 = .ok (.if_icmp .eq 24, 3) := by decide +kernel
theorem dX8_twice_37 : decode cX8_twice 37 = .ok (.aload_n 0, 1) := by decide +kernel
theorem dX8_twice_38 : decode cX8_twice 38 = .ok (.getfield 16, 3) := by decide +kernel
theorem dX8_twice_41 : decode cX8_twice 41 = .ok (.iload 4, 2) := by decide +kernel
theorem dX8_twice_43 : decode cX8_twice 43 = .ok (.laload, 1) := by decide +kernel
theorem dX8_twice_44 : decode cX8_twice 44 = .ok (.aload_n 0, 1) := by decide +kernel
theorem dX8_twice_45 : decode cX8_twice 45 = .ok (.getfield 16, 3) := by decide +kernel
theorem dX8_twice_48 : decode cX8_twice 48 = .ok (.iload_n 2, 1) := by decide +kernel
theorem dX8_twice_49 : decode cX8_twice 49 = .ok (.laload, 1) := by decide +kernel
theorem dX8_twice_50 : decode cX8_twice 50 = .ok (.lcmp, 1) := by decide +kernel
theorem dX8_twice_51 : decode cX8_twice 51 = .ok (.ifCond .ne 7, 3) := by decide +kernel
theorem dX8_twice_54 : decode cX8_twice 54 = .ok (.iconst 1, 1) := by decide +kernel
theorem dX8_twice_55 : decode cX8_twice 55 = .ok (.goto 4, 3) := by decide +kernel
theorem dX8_twice_58 : decode cX8_twice 58 = .ok (.iconst 0, 1) := by decide +kernel
theorem dX8_twice_59 : decode cX8_twice 59 = .ok (.istore_n 3, 1) := by decide +kernel
theorem dX8_twice_60 : decode cX8_twice 60 = .ok (.iinc 4 1, 3) := by decide +kernel
theorem dX8_twice_63 : decode cX8_twice 63 = .ok (.goto (-45), 3) := by decide +kernel
theorem dX8_twice_66 : decode cX8_twice 66 = .ok (.iload_n 3, 1) := by decide +kernel
theorem dX8_twice_67 : decode cX8_twice 67 = .ok (.ifCond .eq 27, 3) := by decide +kernel
theorem dX8_twice_70 : decode cX8_twice 70 = .ok (.iload_n 1, 1) := by decide +kernel
theorem dX8_twice_71 : decode cX8_twice 71 = .ok (.ifCond .lt 19, 3) := by decide +kernel
theorem dX8_twice_74 : decode cX8_twice 74 = .ok (.aload_n 0, 1) := by decide +kernel
theorem dX8_twice_75 : decode cX8_twice 75 = .ok (.getfield 16, 3) := by decide +kernel
theorem dX8_twice_78 : decode cX8_twice 78 = .ok (.iload_n 2, 1) := by decide +kernel
theorem dX8_twice_79 : decode cX8_twice 79 = .ok (.laload, 1) := by decide +kernel
theorem dX8_twice_80 : decode cX8_twice 80 = .ok (.aload_n 0, 1) := by decide +kernel
theorem dX8_twice_81 : decode cX8_twice 81 = .ok (.getfield 16, 3) := by decide +kernel
theorem dX8_twice_84 : decode cX8_twice 84 = .ok (.iload_n 1, 1) := by decide +kernel
theorem dX8_twice_85 : decode cX8_twice 85 = .ok (.laload, 1) := by decide +kernel
theorem dX8_twice_86 : decode cX8_twice 86 = .ok (.lcmp, 1) := by decide +kernel
theorem dX8_twice_87 : decode cX8_twice 87 = .ok (.ifCond .ge 7, 3) := by decide +kernel
theorem dX8_twice_90 : decode cX8_twice 90 = .ok (.iload_n 2, 1) := by decide +kernel
theorem dX8_twice_91 : decode cX8_twice 91 = .ok (.goto 4, 3) := by decide +kernel
theorem dX8_twice_94 : decode cX8_twice 94 = .ok (.iload_n 1, 1) := by decide +kernel
theorem dX8_twice_95 : decode cX8_twice 95 = .ok (.istore_n 1, 1) := by decide +kernel
theorem dX8_twice_96 : decode cX8_twice 96 = .ok (.iinc 2 1, 3) := by decide +kernel
theorem dX8_twice_99 : decode cX8_twice 99 = .ok (.goto (-94), 3) := by decide +kernel
theorem dX8_twice_102 : decode cX8_twice 102 = .ok (.iload_n 1, 1) := by decide +kernel
theorem dX8_twice_103 : decode cX8_twice 103 = .ok (.ireturn, 1) := by decide +kernel
abbrev po_X8_twice (cI cJ : ClassId) (hX8 : Nat) (aX8_ups : Nat) (aX8_downs : Nat) (m_many : Int) (aX8_row : Nat) (m_isSpent : Int) (m_found : Int) (aX8_sumMany : Nat) (aX8_sumShares : Nat) (aX8_sumSet : Nat) (aX8_taken : Nat) (aX8_restUp : Nat) (aX8_restDown : Nat) (m_fewest : Int) (m_wishes : Int) (aX8_wished : Nat) (aX8_far : Nat) (aX8_queue : Nat) (m_divided : Int) (aX8_divisors : Nat) (aX8_least : Nat) (m_pairOne : Int) (m_pairTwo : Int) (m_sumUp : Int) (m_sumDown : Int) (m_row : Int → Int) (Q : Int → Prop) : Option Value → va_W → Prop := fun rv w1 => ∃ (r0 : Int), rv = some (.int (i32 r0)) ∧ w1 = [(hX8, .inr (7, [.ref aX8_ups, .ref aX8_downs, .int (i32 m_many), .ref aX8_row, .int (i32 m_isSpent), .int (i32 m_found), .ref aX8_sumMany, .ref aX8_sumShares, .ref aX8_sumSet, .ref aX8_taken, .ref aX8_restUp, .ref aX8_restDown, .int (i32 m_fewest), .int (i32 m_wishes), .ref aX8_wished, .ref aX8_far, .ref aX8_queue, .int (i32 m_divided), .ref aX8_divisors, .ref aX8_least, .long (i64 m_pairOne), .long (i64 m_pairTwo), .long (i64 m_sumUp), .long (i64 m_sumDown)])), (aX8_row, aL cJ 17 m_row)] ∧ r32 r0 ∧ Q r0
def wp_X8_twice_59 (Q : Int → Prop) (m_many : Int) (m_row : Int → Int) (K_5 : Int → Int → Prop) (K_18 : Int → Int → Int → Int → Prop) (l1 : Int) (l2 : Int) (l4 : Int) (k0 : Int) : Prop := (r32 (l4 + 1) ∧ K_18 l1 l2 k0 (l4 + 1))
set_option maxHeartbeats 4000000 in
set_option maxRecDepth 100000 in
theorem s_X8_twice_59 {X : Cx} (g : Gd X cX8_twice RX8 (some .int) 5) (hR : X.R = rmL 1 0 0) (hX8 : Nat) (aX8_ups : Nat) (aX8_downs : Nat) (aX8_row : Nat) (m_isSpent : Int) (m_found : Int) (aX8_sumMany : Nat) (aX8_sumShares : Nat) (aX8_sumSet : Nat) (aX8_taken : Nat) (aX8_restUp : Nat) (aX8_restDown : Nat) (m_fewest : Int) (m_wishes : Int) (aX8_wished : Nat) (aX8_far : Nat) (aX8_queue : Nat) (m_divided : Int) (aX8_divisors : Nat) (aX8_least : Nat) (m_pairOne : Int) (m_pairTwo : Int) (m_sumUp : Int) (m_sumDown : Int) (m_many : Int) (m_row : Int → Int) (r_m_many : r32 m_many) (r_m_row : rr64 m_row) (Q : Int → Prop) (hF : FQ X 0 0 (po_X8_twice X.cI X.cJ hX8 aX8_ups aX8_downs m_many aX8_row m_isSpent m_found aX8_sumMany aX8_sumShares aX8_sumSet aX8_taken aX8_restUp aX8_restDown m_fewest m_wishes aX8_wished aX8_far aX8_queue m_divided aX8_divisors aX8_least m_pairOne m_pairTwo m_sumUp m_sumDown m_row Q)) (K_5 : Int → Int → Prop) (hK_5 : ∀ (l1 : Int) (l2 : Int), r32 l1 → r32 l2 → K_5 l1 l2 → Wat X 0 0 5 [(0, .ref hX8), (1, .int (i32 l1)), (2, .int (i32 l2))] [] [(hX8, .inr (7, [.ref aX8_ups, .ref aX8_downs, .int (i32 m_many), .ref aX8_row, .int (i32 m_isSpent), .int (i32 m_found), .ref aX8_sumMany, .ref aX8_sumShares, .ref aX8_sumSet, .ref aX8_taken, .ref aX8_restUp, .ref aX8_restDown, .int (i32 m_fewest), .int (i32 m_wishes), .ref aX8_wished, .ref aX8_far, .ref aX8_queue, .int (i32 m_divided), .ref aX8_divisors, .ref aX8_least, .long (i64 m_pairOne), .long (i64 m_pairTwo), .long (i64 m_sumUp), .long (i64 m_sumDown)])), (aX8_row, aL X.cJ 17 m_row)]) (K_18 : Int → Int → Int → Int → Prop) (hK_18 : ∀ (l1 : Int) (l2 : Int) (l3 : Int) (l4 : Int), r32 l1 → r32 l2 → r32 l3 → r32 l4 → K_18 l1 l2 l3 l4 → Wat X 0 0 18 [(0, .ref hX8), (1, .int (i32 l1)), (2, .int (i32 l2)), (3, .int (i32 l3)), (4, .int (i32 l4))] [] [(hX8, .inr (7, [.ref aX8_ups, .ref aX8_downs, .int (i32 m_many), .ref aX8_row, .int (i32 m_isSpent), .int (i32 m_found), .ref aX8_sumMany, .ref aX8_sumShares, .ref aX8_sumSet, .ref aX8_taken, .ref aX8_restUp, .ref aX8_restDown, .int (i32 m_fewest), .int (i32 m_wishes), .ref aX8_wished, .ref aX8_far, .ref aX8_queue, .int (i32 m_divided), .ref aX8_divisors, .ref aX8_least, .long (i64 m_pairOne), .long (i64 m_pairTwo), .long (i64 m_sumUp), .long (i64 m_sumDown)])), (aX8_row, aL X.cJ 17 m_row)]) : ∀ (l1 : Int) (l2 : Int) (l4 : Int) (k0 : Int), r32 l1 → r32 l2 → r32 l4 → r32 k0 → wp_X8_twice_59 Q m_many m_row K_5 K_18 l1 l2 l4 k0 → Wat X 0 0 59 [(0, .ref hX8), (1, .int (i32 l1)), (2, .int (i32 l2)), (4, .int (i32 l4))] [.int (i32 k0)] [(hX8, .inr (7, [.ref aX8_ups, .ref aX8_downs, .int (i32 m_many), .ref aX8_row, .int (i32 m_isSpent), .int (i32 m_found), .ref aX8_sumMany, .ref aX8_sumShares, .ref aX8_sumSet, .ref aX8_taken, .ref aX8_restUp, .ref aX8_restDown, .int (i32 m_fewest), .int (i32 m_wishes), .ref aX8_wished, .ref aX8_far, .ref aX8_queue, .int (i32 m_divided), .ref aX8_divisors, .ref aX8_least, .long (i64 m_pairOne), .long (i64 m_pairTwo), .long (i64 m_sumUp), .long (i64 m_sumDown)])), (aX8_row, aL X.cJ 17 m_row)] := by
  intro l1 l2 l4 k0 r_l1 r_l2 r_l4 r_k0 h
  rw [wp_X8_twice_59] at h
  refine q_istore_n (lv' := [(3, .int (i32 k0)), (0, .ref hX8), (1, .int (i32 l1)), (2, .int (i32 l2)), (4, .int (i32 l4))]) g 3 3 rfl (by decide) rfl dX8_twice_59 ?_
  obtain ⟨c60, h⟩ := h
  refine q_iinc (lv' := [(4, .int (i32 (l4 + 1))), (3, .int (i32 k0)), (0, .ref hX8), (1, .int (i32 l1)), (2, .int (i32 l2))]) g 4 4 1 (by decide) rfl rfl dX8_twice_60 ?_
  refine q_goto g (-45) 18 (by decide) dX8_twice_63 ?_
  refine q_lv (lv' := [(0, .ref hX8), (1, .int (i32 l1)), (2, .int (i32 l2)), (3, .int (i32 k0)), (4, .int (i32 (l4 + 1)))]) [2, 3, 4, 1, 0] rfl ?_
  exact hK_18 l1 l2 k0 (l4 + 1) r_l1 r_l2 r_k0 c60 h
def wp_X8_twice_54 (Q : Int → Prop) (m_many : Int) (m_row : Int → Int) (K_5 : Int → Int → Prop) (K_18 : Int → Int → Int → Int → Prop) (l1 : Int) (l2 : Int) (l4 : Int) : Prop := wp_X8_twice_59 Q m_many m_row K_5 K_18 l1 l2 l4 1
set_option maxHeartbeats 4000000 in
set_option maxRecDepth 100000 in
theorem s_X8_twice_54 {X : Cx} (g : Gd X cX8_twice RX8 (some .int) 5) (hR : X.R = rmL 1 0 0) (hX8 : Nat) (aX8_ups : Nat) (aX8_downs : Nat) (aX8_row : Nat) (m_isSpent : Int) (m_found : Int) (aX8_sumMany : Nat) (aX8_sumShares : Nat) (aX8_sumSet : Nat) (aX8_taken : Nat) (aX8_restUp : Nat) (aX8_restDown : Nat) (m_fewest : Int) (m_wishes : Int) (aX8_wished : Nat) (aX8_far : Nat) (aX8_queue : Nat) (m_divided : Int) (aX8_divisors : Nat) (aX8_least : Nat) (m_pairOne : Int) (m_pairTwo : Int) (m_sumUp : Int) (m_sumDown : Int) (m_many : Int) (m_row : Int → Int) (r_m_many : r32 m_many) (r_m_row : rr64 m_row) (Q : Int → Prop) (hF : FQ X 0 0 (po_X8_twice X.cI X.cJ hX8 aX8_ups aX8_downs m_many aX8_row m_isSpent m_found aX8_sumMany aX8_sumShares aX8_sumSet aX8_taken aX8_restUp aX8_restDown m_fewest m_wishes aX8_wished aX8_far aX8_queue m_divided aX8_divisors aX8_least m_pairOne m_pairTwo m_sumUp m_sumDown m_row Q)) (K_5 : Int → Int → Prop) (hK_5 : ∀ (l1 : Int) (l2 : Int), r32 l1 → r32 l2 → K_5 l1 l2 → Wat X 0 0 5 [(0, .ref hX8), (1, .int (i32 l1)), (2, .int (i32 l2))] [] [(hX8, .inr (7, [.ref aX8_ups, .ref aX8_downs, .int (i32 m_many), .ref aX8_row, .int (i32 m_isSpent), .int (i32 m_found), .ref aX8_sumMany, .ref aX8_sumShares, .ref aX8_sumSet, .ref aX8_taken, .ref aX8_restUp, .ref aX8_restDown, .int (i32 m_fewest), .int (i32 m_wishes), .ref aX8_wished, .ref aX8_far, .ref aX8_queue, .int (i32 m_divided), .ref aX8_divisors, .ref aX8_least, .long (i64 m_pairOne), .long (i64 m_pairTwo), .long (i64 m_sumUp), .long (i64 m_sumDown)])), (aX8_row, aL X.cJ 17 m_row)]) (K_18 : Int → Int → Int → Int → Prop) (hK_18 : ∀ (l1 : Int) (l2 : Int) (l3 : Int) (l4 : Int), r32 l1 → r32 l2 → r32 l3 → r32 l4 → K_18 l1 l2 l3 l4 → Wat X 0 0 18 [(0, .ref hX8), (1, .int (i32 l1)), (2, .int (i32 l2)), (3, .int (i32 l3)), (4, .int (i32 l4))] [] [(hX8, .inr (7, [.ref aX8_ups, .ref aX8_downs, .int (i32 m_many), .ref aX8_row, .int (i32 m_isSpent), .int (i32 m_found), .ref aX8_sumMany, .ref aX8_sumShares, .ref aX8_sumSet, .ref aX8_taken, .ref aX8_restUp, .ref aX8_restDown, .int (i32 m_fewest), .int (i32 m_wishes), .ref aX8_wished, .ref aX8_far, .ref aX8_queue, .int (i32 m_divided), .ref aX8_divisors, .ref aX8_least, .long (i64 m_pairOne), .long (i64 m_pairTwo), .long (i64 m_sumUp), .long (i64 m_sumDown)])), (aX8_row, aL X.cJ 17 m_row)]) : ∀ (l1 : Int) (l2 : Int) (l4 : Int), r32 l1 → r32 l2 → r32 l4 → wp_X8_twice_54 Q m_many m_row K_5 K_18 l1 l2 l4 → Wat X 0 0 54 [(0, .ref hX8), (1, .int (i32 l1)), (2, .int (i32 l2)), (4, .int (i32 l4))] [] [(hX8, .inr (7, [.ref aX8_ups, .ref aX8_downs, .int (i32 m_many), .ref aX8_row, .int (i32 m_isSpent), .int (i32 m_found), .ref aX8_sumMany, .ref aX8_sumShares, .ref aX8_sumSet, .ref aX8_taken, .ref aX8_restUp, .ref aX8_restDown, .int (i32 m_fewest), .int (i32 m_wishes), .ref aX8_wished, .ref aX8_far, .ref aX8_queue, .int (i32 m_divided), .ref aX8_divisors, .ref aX8_least, .long (i64 m_pairOne), .long (i64 m_pairTwo), .long (i64 m_sumUp), .long (i64 m_sumDown)])), (aX8_row, aL X.cJ 17 m_row)] := by
  intro l1 l2 l4 r_l1 r_l2 r_l4 h
  rw [wp_X8_twice_54] at h
  refine q_iconst g (1) dX8_twice_54 ?_
  refine q_goto g (4) 59 (by decide) dX8_twice_55 ?_
  exact s_X8_twice_59 g hR hX8 aX8_ups aX8_downs aX8_row m_isSpent m_found aX8_sumMany aX8_sumShares aX8_sumSet aX8_taken aX8_restUp aX8_restDown m_fewest m_wishes aX8_wished aX8_far aX8_queue m_divided aX8_divisors aX8_least m_pairOne m_pairTwo m_sumUp m_sumDown m_many m_row r_m_many r_m_row Q hF K_5 hK_5 K_18 hK_18 l1 l2 l4 1 r_l1 r_l2 r_l4 (r32_lit _ (by decide)) h
def wp_X8_twice_58 (Q : Int → Prop) (m_many : Int) (m_row : Int → Int) (K_5 : Int → Int → Prop) (K_18 : Int → Int → Int → Int → Prop) (l1 : Int) (l2 : Int) (l4 : Int) : Prop := wp_X8_twice_59 Q m_many m_row K_5 K_18 l1 l2 l4 0
set_option maxHeartbeats 4000000 in
set_option maxRecDepth 100000 in
theorem s_X8_twice_58 {X : Cx} (g : Gd X cX8_twice RX8 (some .int) 5) (hR : X.R = rmL 1 0 0) (hX8 : Nat) (aX8_ups : Nat) (aX8_downs : Nat) (aX8_row : Nat) (m_isSpent : Int) (m_found : Int) (aX8_sumMany : Nat) (aX8_sumShares : Nat) (aX8_sumSet : Nat) (aX8_taken : Nat) (aX8_restUp : Nat) (aX8_restDown : Nat) (m_fewest : Int) (m_wishes : Int) (aX8_wished : Nat) (aX8_far : Nat) (aX8_queue : Nat) (m_divided : Int) (aX8_divisors : Nat) (aX8_least : Nat) (m_pairOne : Int) (m_pairTwo : Int) (m_sumUp : Int) (m_sumDown : Int) (m_many : Int) (m_row : Int → Int) (r_m_many : r32 m_many) (r_m_row : rr64 m_row) (Q : Int → Prop) (hF : FQ X 0 0 (po_X8_twice X.cI X.cJ hX8 aX8_ups aX8_downs m_many aX8_row m_isSpent m_found aX8_sumMany aX8_sumShares aX8_sumSet aX8_taken aX8_restUp aX8_restDown m_fewest m_wishes aX8_wished aX8_far aX8_queue m_divided aX8_divisors aX8_least m_pairOne m_pairTwo m_sumUp m_sumDown m_row Q)) (K_5 : Int → Int → Prop) (hK_5 : ∀ (l1 : Int) (l2 : Int), r32 l1 → r32 l2 → K_5 l1 l2 → Wat X 0 0 5 [(0, .ref hX8), (1, .int (i32 l1)), (2, .int (i32 l2))] [] [(hX8, .inr (7, [.ref aX8_ups, .ref aX8_downs, .int (i32 m_many), .ref aX8_row, .int (i32 m_isSpent), .int (i32 m_found), .ref aX8_sumMany, .ref aX8_sumShares, .ref aX8_sumSet, .ref aX8_taken, .ref aX8_restUp, .ref aX8_restDown, .int (i32 m_fewest), .int (i32 m_wishes), .ref aX8_wished, .ref aX8_far, .ref aX8_queue, .int (i32 m_divided), .ref aX8_divisors, .ref aX8_least, .long (i64 m_pairOne), .long (i64 m_pairTwo), .long (i64 m_sumUp), .long (i64 m_sumDown)])), (aX8_row, aL X.cJ 17 m_row)]) (K_18 : Int → Int → Int → Int → Prop) (hK_18 : ∀ (l1 : Int) (l2 : Int) (l3 : Int) (l4 : Int), r32 l1 → r32 l2 → r32 l3 → r32 l4 → K_18 l1 l2 l3 l4 → Wat X 0 0 18 [(0, .ref hX8), (1, .int (i32 l1)), (2, .int (i32 l2)), (3, .int (i32 l3)), (4, .int (i32 l4))] [] [(hX8, .inr (7, [.ref aX8_ups, .ref aX8_downs, .int (i32 m_many), .ref aX8_row, .int (i32 m_isSpent), .int (i32 m_found), .ref aX8_sumMany, .ref aX8_sumShares, .ref aX8_sumSet, .ref aX8_taken, .ref aX8_restUp, .ref aX8_restDown, .int (i32 m_fewest), .int (i32 m_wishes), .ref aX8_wished, .ref aX8_far, .ref aX8_queue, .int (i32 m_divided), .ref aX8_divisors, .ref aX8_least, .long (i64 m_pairOne), .long (i64 m_pairTwo), .long (i64 m_sumUp), .long (i64 m_sumDown)])), (aX8_row, aL X.cJ 17 m_row)]) : ∀ (l1 : Int) (l2 : Int) (l4 : Int), r32 l1 → r32 l2 → r32 l4 → wp_X8_twice_58 Q m_many m_row K_5 K_18 l1 l2 l4 → Wat X 0 0 58 [(0, .ref hX8), (1, .int (i32 l1)), (2, .int (i32 l2)), (4, .int (i32 l4))] [] [(hX8, .inr (7, [.ref aX8_ups, .ref aX8_downs, .int (i32 m_many), .ref aX8_row, .int (i32 m_isSpent), .int (i32 m_found), .ref aX8_sumMany, .ref aX8_sumShares, .ref aX8_sumSet, .ref aX8_taken, .ref aX8_restUp, .ref aX8_restDown, .int (i32 m_fewest), .int (i32 m_wishes), .ref aX8_wished, .ref aX8_far, .ref aX8_queue, .int (i32 m_divided), .ref aX8_divisors, .ref aX8_least, .long (i64 m_pairOne), .long (i64 m_pairTwo), .long (i64 m_sumUp), .long (i64 m_sumDown)])), (aX8_row, aL X.cJ 17 m_row)] := by
  intro l1 l2 l4 r_l1 r_l2 r_l4 h
  rw [wp_X8_twice_58] at h
  refine q_iconst g (0) dX8_twice_58 ?_
  exact s_X8_twice_59 g hR hX8 aX8_ups aX8_downs aX8_row m_isSpent m_found aX8_sumMany aX8_sumShares aX8_sumSet aX8_taken aX8_restUp aX8_restDown m_fewest m_wishes aX8_wished aX8_far aX8_queue m_divided aX8_divisors aX8_least m_pairOne m_pairTwo m_sumUp m_sumDown m_many m_row r_m_many r_m_row Q hF K_5 hK_5 K_18 hK_18 l1 l2 l4 0 r_l1 r_l2 r_l4 (r32_lit _ (by decide)) h
def wp_X8_twice_95 (Q : Int → Prop) (m_many : Int) (m_row : Int → Int) (K_5 : Int → Int → Prop) (l2 : Int) (k0 : Int) : Prop := (r32 (l2 + 1) ∧ K_5 k0 (l2 + 1))
set_option maxHeartbeats 4000000 in
set_option maxRecDepth 100000 in
theorem s_X8_twice_95 {X : Cx} (g : Gd X cX8_twice RX8 (some .int) 5) (hR : X.R = rmL 1 0 0) (hX8 : Nat) (aX8_ups : Nat) (aX8_downs : Nat) (aX8_row : Nat) (m_isSpent : Int) (m_found : Int) (aX8_sumMany : Nat) (aX8_sumShares : Nat) (aX8_sumSet : Nat) (aX8_taken : Nat) (aX8_restUp : Nat) (aX8_restDown : Nat) (m_fewest : Int) (m_wishes : Int) (aX8_wished : Nat) (aX8_far : Nat) (aX8_queue : Nat) (m_divided : Int) (aX8_divisors : Nat) (aX8_least : Nat) (m_pairOne : Int) (m_pairTwo : Int) (m_sumUp : Int) (m_sumDown : Int) (m_many : Int) (m_row : Int → Int) (r_m_many : r32 m_many) (r_m_row : rr64 m_row) (Q : Int → Prop) (hF : FQ X 0 0 (po_X8_twice X.cI X.cJ hX8 aX8_ups aX8_downs m_many aX8_row m_isSpent m_found aX8_sumMany aX8_sumShares aX8_sumSet aX8_taken aX8_restUp aX8_restDown m_fewest m_wishes aX8_wished aX8_far aX8_queue m_divided aX8_divisors aX8_least m_pairOne m_pairTwo m_sumUp m_sumDown m_row Q)) (K_5 : Int → Int → Prop) (hK_5 : ∀ (l1 : Int) (l2 : Int), r32 l1 → r32 l2 → K_5 l1 l2 → Wat X 0 0 5 [(0, .ref hX8), (1, .int (i32 l1)), (2, .int (i32 l2))] [] [(hX8, .inr (7, [.ref aX8_ups, .ref aX8_downs, .int (i32 m_many), .ref aX8_row, .int (i32 m_isSpent), .int (i32 m_found), .ref aX8_sumMany, .ref aX8_sumShares, .ref aX8_sumSet, .ref aX8_taken, .ref aX8_restUp, .ref aX8_restDown, .int (i32 m_fewest), .int (i32 m_wishes), .ref aX8_wished, .ref aX8_far, .ref aX8_queue, .int (i32 m_divided), .ref aX8_divisors, .ref aX8_least, .long (i64 m_pairOne), .long (i64 m_pairTwo), .long (i64 m_sumUp), .long (i64 m_sumDown)])), (aX8_row, aL X.cJ 17 m_row)]) : ∀ (l2 : Int) (k0 : Int), r32 l2 → r32 k0 → wp_X8_twice_95 Q m_many m_row K_5 l2 k0 → Wat X 0 0 95 [(0, .ref hX8), (2, .int (i32 l2))] [.int (i32 k0)] [(hX8, .inr (7, [.ref aX8_ups, .ref aX8_downs, .int (i32 m_many), .ref aX8_row, .int (i32 m_isSpent), .int (i32 m_found), .ref aX8_sumMany, .ref aX8_sumShares, .ref aX8_sumSet, .ref aX8_taken, .ref aX8_restUp, .ref aX8_restDown, .int (i32 m_fewest), .int (i32 m_wishes), .ref aX8_wished, .ref aX8_far, .ref aX8_queue, .int (i32 m_divided), .ref aX8_divisors, .ref aX8_least, .long (i64 m_pairOne), .long (i64 m_pairTwo), .long (i64 m_sumUp), .long (i64 m_sumDown)])), (aX8_row, aL X.cJ 17 m_row)] := by
  intro l2 k0 r_l2 r_k0 h
  rw [wp_X8_twice_95] at h
  refine q_istore_n (lv' := [(1, .int (i32 k0)), (0, .ref hX8), (2, .int (i32 l2))]) g 1 1 rfl (by decide) rfl dX8_twice_95 ?_
  obtain ⟨c96, h⟩ := h
  refine q_iinc (lv' := [(2, .int (i32 (l2 + 1))), (1, .int (i32 k0)), (0, .ref hX8)]) g 2 2 1 (by decide) rfl rfl dX8_twice_96 ?_
  refine q_goto g (-94) 5 (by decide) dX8_twice_99 ?_
  refine q_lv (lv' := [(0, .ref hX8), (1, .int (i32 k0)), (2, .int (i32 (l2 + 1)))]) [2, 1, 0] rfl ?_
  exact hK_5 k0 (l2 + 1) r_k0 c96 h
def wp_X8_twice_90 (Q : Int → Prop) (m_many : Int) (m_row : Int → Int) (K_5 : Int → Int → Prop) (l2 : Int) : Prop := wp_X8_twice_95 Q m_many m_row K_5 l2 l2
set_option maxHeartbeats 4000000 in
set_option maxRecDepth 100000 in
theorem s_X8_twice_90 {X : Cx} (g : Gd X cX8_twice RX8 (some .int) 5) (hR : X.R = rmL 1 0 0) (hX8 : Nat) (aX8_ups : Nat) (aX8_downs : Nat) (aX8_row : Nat) (m_isSpent : Int) (m_found : Int) (aX8_sumMany : Nat) (aX8_sumShares : Nat) (aX8_sumSet : Nat) (aX8_taken : Nat) (aX8_restUp : Nat) (aX8_restDown : Nat) (m_fewest : Int) (m_wishes : Int) (aX8_wished : Nat) (aX8_far : Nat) (aX8_queue : Nat) (m_divided : Int) (aX8_divisors : Nat) (aX8_least : Nat) (m_pairOne : Int) (m_pairTwo : Int) (m_sumUp : Int) (m_sumDown : Int) (m_many : Int) (m_row : Int → Int) (r_m_many : r32 m_many) (r_m_row : rr64 m_row) (Q : Int → Prop) (hF : FQ X 0 0 (po_X8_twice X.cI X.cJ hX8 aX8_ups aX8_downs m_many aX8_row m_isSpent m_found aX8_sumMany aX8_sumShares aX8_sumSet aX8_taken aX8_restUp aX8_restDown m_fewest m_wishes aX8_wished aX8_far aX8_queue m_divided aX8_divisors aX8_least m_pairOne m_pairTwo m_sumUp m_sumDown m_row Q)) (K_5 : Int → Int → Prop) (hK_5 : ∀ (l1 : Int) (l2 : Int), r32 l1 → r32 l2 → K_5 l1 l2 → Wat X 0 0 5 [(0, .ref hX8), (1, .int (i32 l1)), (2, .int (i32 l2))] [] [(hX8, .inr (7, [.ref aX8_ups, .ref aX8_downs, .int (i32 m_many), .ref aX8_row, .int (i32 m_isSpent), .int (i32 m_found), .ref aX8_sumMany, .ref aX8_sumShares, .ref aX8_sumSet, .ref aX8_taken, .ref aX8_restUp, .ref aX8_restDown, .int (i32 m_fewest), .int (i32 m_wishes), .ref aX8_wished, .ref aX8_far, .ref aX8_queue, .int (i32 m_divided), .ref aX8_divisors, .ref aX8_least, .long (i64 m_pairOne), .long (i64 m_pairTwo), .long (i64 m_sumUp), .long (i64 m_sumDown)])), (aX8_row, aL X.cJ 17 m_row)]) : ∀ (l2 : Int), r32 l2 → wp_X8_twice_90 Q m_many m_row K_5 l2 → Wat X 0 0 90 [(0, .ref hX8), (2, .int (i32 l2))] [] [(hX8, .inr (7, [.ref aX8_ups, .ref aX8_downs, .int (i32 m_many), .ref aX8_row, .int (i32 m_isSpent), .int (i32 m_found), .ref aX8_sumMany, .ref aX8_sumShares, .ref aX8_sumSet, .ref aX8_taken, .ref aX8_restUp, .ref aX8_restDown, .int (i32 m_fewest), .int (i32 m_wishes), .ref aX8_wished, .ref aX8_far, .ref aX8_queue, .int (i32 m_divided), .ref aX8_divisors, .ref aX8_least, .long (i64 m_pairOne), .long (i64 m_pairTwo), .long (i64 m_sumUp), .long (i64 m_sumDown)])), (aX8_row, aL X.cJ 17 m_row)] := by
  intro l2 r_l2 h
  rw [wp_X8_twice_90] at h
  refine q_iload_n g 2 1 rfl dX8_twice_90 ?_
  refine q_goto g (4) 95 (by decide) dX8_twice_91 ?_
  exact s_X8_twice_95 g hR hX8 aX8_ups aX8_downs aX8_row m_isSpent m_found aX8_sumMany aX8_sumShares aX8_sumSet aX8_taken aX8_restUp aX8_restDown m_fewest m_wishes aX8_wished aX8_far aX8_queue m_divided aX8_divisors aX8_least m_pairOne m_pairTwo m_sumUp m_sumDown m_many m_row r_m_many r_m_row Q hF K_5 hK_5 l2 l2 r_l2 r_l2 h
def wp_X8_twice_94 (Q : Int → Prop) (m_many : Int) (m_row : Int → Int) (K_5 : Int → Int → Prop) (l1 : Int) (l2 : Int) : Prop := wp_X8_twice_95 Q m_many m_row K_5 l2 l1
set_option maxHeartbeats 4000000 in
set_option maxRecDepth 100000 in
theorem s_X8_twice_94 {X : Cx} (g : Gd X cX8_twice RX8 (some .int) 5) (hR : X.R = rmL 1 0 0) (hX8 : Nat) (aX8_ups : Nat) (aX8_downs : Nat) (aX8_row : Nat) (m_isSpent : Int) (m_found : Int) (aX8_sumMany : Nat) (aX8_sumShares : Nat) (aX8_sumSet : Nat) (aX8_taken : Nat) (aX8_restUp : Nat) (aX8_restDown : Nat) (m_fewest : Int) (m_wishes : Int) (aX8_wished : Nat) (aX8_far : Nat) (aX8_queue : Nat) (m_divided : Int) (aX8_divisors : Nat) (aX8_least : Nat) (m_pairOne : Int) (m_pairTwo : Int) (m_sumUp : Int) (m_sumDown : Int) (m_many : Int) (m_row : Int → Int) (r_m_many : r32 m_many) (r_m_row : rr64 m_row) (Q : Int → Prop) (hF : FQ X 0 0 (po_X8_twice X.cI X.cJ hX8 aX8_ups aX8_downs m_many aX8_row m_isSpent m_found aX8_sumMany aX8_sumShares aX8_sumSet aX8_taken aX8_restUp aX8_restDown m_fewest m_wishes aX8_wished aX8_far aX8_queue m_divided aX8_divisors aX8_least m_pairOne m_pairTwo m_sumUp m_sumDown m_row Q)) (K_5 : Int → Int → Prop) (hK_5 : ∀ (l1 : Int) (l2 : Int), r32 l1 → r32 l2 → K_5 l1 l2 → Wat X 0 0 5 [(0, .ref hX8), (1, .int (i32 l1)), (2, .int (i32 l2))] [] [(hX8, .inr (7, [.ref aX8_ups, .ref aX8_downs, .int (i32 m_many), .ref aX8_row, .int (i32 m_isSpent), .int (i32 m_found), .ref aX8_sumMany, .ref aX8_sumShares, .ref aX8_sumSet, .ref aX8_taken, .ref aX8_restUp, .ref aX8_restDown, .int (i32 m_fewest), .int (i32 m_wishes), .ref aX8_wished, .ref aX8_far, .ref aX8_queue, .int (i32 m_divided), .ref aX8_divisors, .ref aX8_least, .long (i64 m_pairOne), .long (i64 m_pairTwo), .long (i64 m_sumUp), .long (i64 m_sumDown)])), (aX8_row, aL X.cJ 17 m_row)]) : ∀ (l1 : Int) (l2 : Int), r32 l1 → r32 l2 → wp_X8_twice_94 Q m_many m_row K_5 l1 l2 → Wat X 0 0 94 [(0, .ref hX8), (1, .int (i32 l1)), (2, .int (i32 l2))] [] [(hX8, .inr (7, [.ref aX8_ups, .ref aX8_downs, .int (i32 m_many), .ref aX8_row, .int (i32 m_isSpent), .int (i32 m_found), .ref aX8_sumMany, .ref aX8_sumShares, .ref aX8_sumSet, .ref aX8_taken, .ref aX8_restUp, .ref aX8_restDown, .int (i32 m_fewest), .int (i32 m_wishes), .ref aX8_wished, .ref aX8_far, .ref aX8_queue, .int (i32 m_divided), .ref aX8_divisors, .ref aX8_least, .long (i64 m_pairOne), .long (i64 m_pairTwo), .long (i64 m_sumUp), .long (i64 m_sumDown)])), (aX8_row, aL X.cJ 17 m_row)] := by
  intro l1 l2 r_l1 r_l2 h
  rw [wp_X8_twice_94] at h
  refine q_iload_n g 1 1 rfl dX8_twice_94 ?_
  refine q_lv (lv' := [(0, .ref hX8), (2, .int (i32 l2))]) [0, 2] rfl ?_
  exact s_X8_twice_95 g hR hX8 aX8_ups aX8_downs aX8_row m_isSpent m_found aX8_sumMany aX8_sumShares aX8_sumSet aX8_taken aX8_restUp aX8_restDown m_fewest m_wishes aX8_wished aX8_far aX8_queue m_divided aX8_divisors aX8_least m_pairOne m_pairTwo m_sumUp m_sumDown m_many m_row r_m_many r_m_row Q hF K_5 hK_5 l2 l1 r_l2 r_l1 h
def wp_X8_twice_18 (Q : Int → Prop) (m_many : Int) (m_row : Int → Int) (K_5 : Int → Int → Prop) : Nat → Int → Int → Int → Int → Prop
  | 0, _, _, _, _ => False
  | n + 1, l1, l2, l3, l4 => ((m_many ≤ l4 → ((l3 = 0 → wp_X8_twice_94 Q m_many m_row K_5 l1 l2) ∧
  (¬ (l3 = 0) → ((l1 < 0 → wp_X8_twice_90 Q m_many m_row K_5 l2) ∧
  (¬ (l1 < 0) → (0 ≤ l2 ∧ l2 < 17 ∧ 0 ≤ l1 ∧ l1 < 17 ∧ (((m_row l1) ≤ (m_row l2) → wp_X8_twice_94 Q m_many m_row K_5 l1 l2) ∧
  (¬ ((m_row l1) ≤ (m_row l2)) → wp_X8_twice_90 Q m_many m_row K_5 l2)))))))) ∧
  (¬ (m_many ≤ l4) → ((¬ l3 = 0 → wp_X8_twice_54 Q m_many m_row K_5 (wp_X8_twice_18 Q m_many m_row K_5 n) l1 l2 l4) ∧
  (l3 = 0 → ((l4 = l2 → wp_X8_twice_58 Q m_many m_row K_5 (wp_X8_twice_18 Q m_many m_row K_5 n) l1 l2 l4) ∧
  (¬ (l4 = l2) → (0 ≤ l4 ∧ l4 < 17 ∧ 0 ≤ l2 ∧ l2 < 17 ∧ ((¬ (m_row l4) = (m_row l2) → wp_X8_twice_58 Q m_many m_row K_5 (wp_X8_twice_18 Q m_many m_row K_5 n) l1 l2 l4) ∧
  ((m_row l4) = (m_row l2) → wp_X8_twice_54 Q m_many m_row K_5 (wp_X8_twice_18 Q m_many m_row K_5 n) l1 l2 l4)))))))))
set_option maxHeartbeats 4000000 in
set_option maxRecDepth 100000 in
theorem s_X8_twice_18 {X : Cx} (g : Gd X cX8_twice RX8 (some .int) 5) (hR : X.R = rmL 1 0 0) (hX8 : Nat) (aX8_ups : Nat) (aX8_downs : Nat) (aX8_row : Nat) (m_isSpent : Int) (m_found : Int) (aX8_sumMany : Nat) (aX8_sumShares : Nat) (aX8_sumSet : Nat) (aX8_taken : Nat) (aX8_restUp : Nat) (aX8_restDown : Nat) (m_fewest : Int) (m_wishes : Int) (aX8_wished : Nat) (aX8_far : Nat) (aX8_queue : Nat) (m_divided : Int) (aX8_divisors : Nat) (aX8_least : Nat) (m_pairOne : Int) (m_pairTwo : Int) (m_sumUp : Int) (m_sumDown : Int) (m_many : Int) (m_row : Int → Int) (r_m_many : r32 m_many) (r_m_row : rr64 m_row) (Q : Int → Prop) (hF : FQ X 0 0 (po_X8_twice X.cI X.cJ hX8 aX8_ups aX8_downs m_many aX8_row m_isSpent m_found aX8_sumMany aX8_sumShares aX8_sumSet aX8_taken aX8_restUp aX8_restDown m_fewest m_wishes aX8_wished aX8_far aX8_queue m_divided aX8_divisors aX8_least m_pairOne m_pairTwo m_sumUp m_sumDown m_row Q)) (K_5 : Int → Int → Prop) (hK_5 : ∀ (l1 : Int) (l2 : Int), r32 l1 → r32 l2 → K_5 l1 l2 → Wat X 0 0 5 [(0, .ref hX8), (1, .int (i32 l1)), (2, .int (i32 l2))] [] [(hX8, .inr (7, [.ref aX8_ups, .ref aX8_downs, .int (i32 m_many), .ref aX8_row, .int (i32 m_isSpent), .int (i32 m_found), .ref aX8_sumMany, .ref aX8_sumShares, .ref aX8_sumSet, .ref aX8_taken, .ref aX8_restUp, .ref aX8_restDown, .int (i32 m_fewest), .int (i32 m_wishes), .ref aX8_wished, .ref aX8_far, .ref aX8_queue, .int (i32 m_divided), .ref aX8_divisors, .ref aX8_least, .long (i64 m_pairOne), .long (i64 m_pairTwo), .long (i64 m_sumUp), .long (i64 m_sumDown)])), (aX8_row, aL X.cJ 17 m_row)]) : ∀ (n : Nat) (l1 : Int) (l2 : Int) (l3 : Int) (l4 : Int), r32 l1 → r32 l2 → r32 l3 → r32 l4 → wp_X8_twice_18 Q m_many m_row K_5 n l1 l2 l3 l4 → Wat X 0 0 18 [(0, .ref hX8), (1, .int (i32 l1)), (2, .int (i32 l2)), (3, .int (i32 l3)), (4, .int (i32 l4))] [] [(hX8, .inr (7, [.ref aX8_ups, .ref aX8_downs, .int (i32 m_many), .ref aX8_row, .int (i32 m_isSpent), .int (i32 m_found), .ref aX8_sumMany, .ref aX8_sumShares, .ref aX8_sumSet, .ref aX8_taken, .ref aX8_restUp, .ref aX8_restDown, .int (i32 m_fewest), .int (i32 m_wishes), .ref aX8_wished, .ref aX8_far, .ref aX8_queue, .int (i32 m_divided), .ref aX8_divisors, .ref aX8_least, .long (i64 m_pairOne), .long (i64 m_pairTwo), .long (i64 m_sumUp), .long (i64 m_sumDown)])), (aX8_row, aL X.cJ 17 m_row)] := by
  intro n
  induction n with
  | zero => intro l1 l2 l3 l4 r_l1 r_l2 r_l3 r_l4 h; exact False.elim h
  | succ n ih =>
    intro l1 l2 l3 l4 r_l1 r_l2 r_l3 r_l4 h
    rw [wp_X8_twice_18] at h
    refine q_iload g 4 4 rfl dX8_twice_18 ?_
    refine q_aload_n g 0 0 rfl dX8_twice_20 ?_
    refine q_get (C := RX8) (T := TX8) (N := 24) g 84 inX8 0 2 rfl rfl (by decide) wF_X8_84 rfl dX8_twice_21 ?_
    refine q_icmp_ge g (42) 66 r_l4 r_m_many (by decide) dX8_twice_24 (fun b24 => ?_) (fun b24 => ?_)
    · replace h := h.1 b24
      refine q_iload_n g 3 3 rfl dX8_twice_66 ?_
      refine q_if_eq g (27) 94 r_l3 (by decide) dX8_twice_67 (fun b67 => ?_) (fun b67 => ?_)
      · replace h := h.1 b67
        refine q_lv (lv' := [(0, .ref hX8), (1, .int (i32 l1)), (2, .int (i32 l2))]) [0, 1, 2] rfl ?_
        exact s_X8_twice_94 g hR hX8 aX8_ups aX8_downs aX8_row m_isSpent m_found aX8_sumMany aX8_sumShares aX8_sumSet aX8_taken aX8_restUp aX8_restDown m_fewest m_wishes aX8_wished aX8_far aX8_queue m_divided aX8_divisors aX8_least m_pairOne m_pairTwo m_sumUp m_sumDown m_many m_row r_m_many r_m_row Q hF K_5 hK_5 l1 l2 r_l1 r_l2 h
      replace h := h.2 b67
      refine q_iload_n g 1 1 rfl dX8_twice_70 ?_
      refine q_if_lt g (19) 90 r_l1 (by decide) dX8_twice_71 (fun b71 => ?_) (fun b71 => ?_)
      · replace h := h.1 b71
        refine q_lv (lv' := [(0, .ref hX8), (2, .int (i32 l2))]) [0, 2] rfl ?_
        exact s_X8_twice_90 g hR hX8 aX8_ups aX8_downs aX8_row m_isSpent m_found aX8_sumMany aX8_sumShares aX8_sumSet aX8_taken aX8_restUp aX8_restDown m_fewest m_wishes aX8_wished aX8_far aX8_queue m_divided aX8_divisors aX8_least m_pairOne m_pairTwo m_sumUp m_sumDown m_many m_row r_m_many r_m_row Q hF K_5 hK_5 l2 r_l2 h
      replace h := h.2 b71
      refine q_aload_n g 0 0 rfl dX8_twice_74 ?_
      refine q_get (C := RX8) (T := TX8) (N := 24) g 16 inX8 0 3 rfl rfl (by decide) wF_X8_16 rfl dX8_twice_75 ?_
      refine q_iload_n g 2 2 rfl dX8_twice_78 ?_
      obtain ⟨c79, h⟩ := h
      obtain ⟨e79, h⟩ := h
      refine q_lald g 1 rfl c79 e79 (by decide) dX8_twice_79 ?_
      refine q_aload_n g 0 0 rfl dX8_twice_80 ?_
      refine q_get (C := RX8) (T := TX8) (N := 24) g 16 inX8 0 3 rfl rfl (by decide) wF_X8_16 rfl dX8_twice_81 ?_
      refine q_iload_n g 1 1 rfl dX8_twice_84 ?_
      obtain ⟨c85, h⟩ := h
      obtain ⟨e85, h⟩ := h
      refine q_lald g 1 rfl c85 e85 (by decide) dX8_twice_85 ?_
      refine q_lcmp_ge g (7) 94 (r_m_row _) (r_m_row _) (by decide) dX8_twice_86 dX8_twice_87 (fun b86 => ?_) (fun b86 => ?_)
      · replace h := h.1 b86
        refine q_lv (lv' := [(0, .ref hX8), (1, .int (i32 l1)), (2, .int (i32 l2))]) [0, 1, 2] rfl ?_
        exact s_X8_twice_94 g hR hX8 aX8_ups aX8_downs aX8_row m_isSpent m_found aX8_sumMany aX8_sumShares aX8_sumSet aX8_taken aX8_restUp aX8_restDown m_fewest m_wishes aX8_wished aX8_far aX8_queue m_divided aX8_divisors aX8_least m_pairOne m_pairTwo m_sumUp m_sumDown m_many m_row r_m_many r_m_row Q hF K_5 hK_5 l1 l2 r_l1 r_l2 h
      replace h := h.2 b86
      refine q_lv (lv' := [(0, .ref hX8), (2, .int (i32 l2))]) [0, 2] rfl ?_
      exact s_X8_twice_90 g hR hX8 aX8_ups aX8_downs aX8_row m_isSpent m_found aX8_sumMany aX8_sumShares aX8_sumSet aX8_taken aX8_restUp aX8_restDown m_fewest m_wishes aX8_wished aX8_far aX8_queue m_divided aX8_divisors aX8_least m_pairOne m_pairTwo m_sumUp m_sumDown m_many m_row r_m_many r_m_row Q hF K_5 hK_5 l2 r_l2 h
    replace h := h.2 b24
    refine q_iload_n g 3 3 rfl dX8_twice_27 ?_
    refine q_if_ne g (26) 54 r_l3 (by decide) dX8_twice_28 (fun b28 => ?_) (fun b28 => ?_)
    · replace h := h.1 b28
      refine q_lv (lv' := [(0, .ref hX8), (1, .int (i32 l1)), (2, .int (i32 l2)), (4, .int (i32 l4))]) [0, 1, 2, 4] rfl ?_
      exact s_X8_twice_54 g hR hX8 aX8_ups aX8_downs aX8_row m_isSpent m_found aX8_sumMany aX8_sumShares aX8_sumSet aX8_taken aX8_restUp aX8_restDown m_fewest m_wishes aX8_wished aX8_far aX8_queue m_divided aX8_divisors aX8_least m_pairOne m_pairTwo m_sumUp m_sumDown m_many m_row r_m_many r_m_row Q hF K_5 hK_5 (wp_X8_twice_18 Q m_many m_row K_5 n) (fun v0 v1 v2 v3 w0 w1 w2 w3 hh => ih v0 v1 v2 v3 w0 w1 w2 w3 hh) l1 l2 l4 r_l1 r_l2 r_l4 h
    replace h := h.2 b28
    refine q_iload g 4 4 rfl dX8_twice_31 ?_
    refine q_iload_n g 2 2 rfl dX8_twice_33 ?_
    refine q_icmp_eq g (24) 58 r_l4 r_l2 (by decide) dX8_twice_34 (fun b34 => ?_) (fun b34 => ?_)
    · replace h := h.1 b34
      refine q_lv (lv' := [(0, .ref hX8), (1, .int (i32 l1)), (2, .int (i32 l2)), (4, .int (i32 l4))]) [0, 1, 2, 4] rfl ?_
      exact s_X8_twice_58 g hR hX8 aX8_ups aX8_downs aX8_row m_isSpent m_found aX8_sumMany aX8_sumShares aX8_sumSet aX8_taken aX8_restUp aX8_restDown m_fewest m_wishes aX8_wished aX8_far aX8_queue m_divided aX8_divisors aX8_least m_pairOne m_pairTwo m_sumUp m_sumDown m_many m_row r_m_many r_m_row Q hF K_5 hK_5 (wp_X8_twice_18 Q m_many m_row K_5 n) (fun v0 v1 v2 v3 w0 w1 w2 w3 hh => ih v0 v1 v2 v3 w0 w1 w2 w3 hh) l1 l2 l4 r_l1 r_l2 r_l4 h
    replace h := h.2 b34
    refine q_aload_n g 0 0 rfl dX8_twice_37 ?_
    refine q_get (C := RX8) (T := TX8) (N := 24) g 16 inX8 0 3 rfl rfl (by decide) wF_X8_16 rfl dX8_twice_38 ?_
    refine q_iload g 4 4 rfl dX8_twice_41 ?_
    obtain ⟨c43, h⟩ := h
    obtain ⟨e43, h⟩ := h
    refine q_lald g 1 rfl c43 e43 (by decide) dX8_twice_43 ?_
    refine q_aload_n g 0 0 rfl dX8_twice_44 ?_
    refine q_get (C := RX8) (T := TX8) (N := 24) g 16 inX8 0 3 rfl rfl (by decide) wF_X8_16 rfl dX8_twice_45 ?_
    refine q_iload_n g 2 2 rfl dX8_twice_48 ?_
    obtain ⟨c49, h⟩ := h
    obtain ⟨e49, h⟩ := h
    refine q_lald g 1 rfl c49 e49 (by decide) dX8_twice_49 ?_
    refine q_lcmp_ne g (7) 58 (r_m_row _) (r_m_row _) (by decide) dX8_twice_50 dX8_twice_51 (fun b50 => ?_) (fun b50 => ?_)
    · replace h := h.1 b50
      refine q_lv (lv' := [(0, .ref hX8), (1, .int (i32 l1)), (2, .int (i32 l2)), (4, .int (i32 l4))]) [0, 1, 2, 4] rfl ?_
      exact s_X8_twice_58 g hR hX8 aX8_ups aX8_downs aX8_row m_isSpent m_found aX8_sumMany aX8_sumShares aX8_sumSet aX8_taken aX8_restUp aX8_restDown m_fewest m_wishes aX8_wished aX8_far aX8_queue m_divided aX8_divisors aX8_least m_pairOne m_pairTwo m_sumUp m_sumDown m_many m_row r_m_many r_m_row Q hF K_5 hK_5 (wp_X8_twice_18 Q m_many m_row K_5 n) (fun v0 v1 v2 v3 w0 w1 w2 w3 hh => ih v0 v1 v2 v3 w0 w1 w2 w3 hh) l1 l2 l4 r_l1 r_l2 r_l4 h
    replace h := h.2 b50
    refine q_lv (lv' := [(0, .ref hX8), (1, .int (i32 l1)), (2, .int (i32 l2)), (4, .int (i32 l4))]) [0, 1, 2, 4] rfl ?_
    exact s_X8_twice_54 g hR hX8 aX8_ups aX8_downs aX8_row m_isSpent m_found aX8_sumMany aX8_sumShares aX8_sumSet aX8_taken aX8_restUp aX8_restDown m_fewest m_wishes aX8_wished aX8_far aX8_queue m_divided aX8_divisors aX8_least m_pairOne m_pairTwo m_sumUp m_sumDown m_many m_row r_m_many r_m_row Q hF K_5 hK_5 (wp_X8_twice_18 Q m_many m_row K_5 n) (fun v0 v1 v2 v3 w0 w1 w2 w3 hh => ih v0 v1 v2 v3 w0 w1 w2 w3 hh) l1 l2 l4 r_l1 r_l2 r_l4 h
def wp_X8_twice_5 (Q : Int → Prop) (m_many : Int) (m_row : Int → Int) : Nat → Int → Int → Prop
  | 0, _, _ => False
  | n + 1, l1, l2 => ((m_many ≤ l2 → Q l1) ∧
  (¬ (m_many ≤ l2) → (∃ n0 : Nat, wp_X8_twice_18 Q m_many m_row (wp_X8_twice_5 Q m_many m_row n) n0 l1 l2 0 0)))
set_option maxHeartbeats 4000000 in
set_option maxRecDepth 100000 in
theorem s_X8_twice_5 {X : Cx} (g : Gd X cX8_twice RX8 (some .int) 5) (hR : X.R = rmL 1 0 0) (hX8 : Nat) (aX8_ups : Nat) (aX8_downs : Nat) (aX8_row : Nat) (m_isSpent : Int) (m_found : Int) (aX8_sumMany : Nat) (aX8_sumShares : Nat) (aX8_sumSet : Nat) (aX8_taken : Nat) (aX8_restUp : Nat) (aX8_restDown : Nat) (m_fewest : Int) (m_wishes : Int) (aX8_wished : Nat) (aX8_far : Nat) (aX8_queue : Nat) (m_divided : Int) (aX8_divisors : Nat) (aX8_least : Nat) (m_pairOne : Int) (m_pairTwo : Int) (m_sumUp : Int) (m_sumDown : Int) (m_many : Int) (m_row : Int → Int) (r_m_many : r32 m_many) (r_m_row : rr64 m_row) (Q : Int → Prop) (hF : FQ X 0 0 (po_X8_twice X.cI X.cJ hX8 aX8_ups aX8_downs m_many aX8_row m_isSpent m_found aX8_sumMany aX8_sumShares aX8_sumSet aX8_taken aX8_restUp aX8_restDown m_fewest m_wishes aX8_wished aX8_far aX8_queue m_divided aX8_divisors aX8_least m_pairOne m_pairTwo m_sumUp m_sumDown m_row Q)) : ∀ (n : Nat) (l1 : Int) (l2 : Int), r32 l1 → r32 l2 → wp_X8_twice_5 Q m_many m_row n l1 l2 → Wat X 0 0 5 [(0, .ref hX8), (1, .int (i32 l1)), (2, .int (i32 l2))] [] [(hX8, .inr (7, [.ref aX8_ups, .ref aX8_downs, .int (i32 m_many), .ref aX8_row, .int (i32 m_isSpent), .int (i32 m_found), .ref aX8_sumMany, .ref aX8_sumShares, .ref aX8_sumSet, .ref aX8_taken, .ref aX8_restUp, .ref aX8_restDown, .int (i32 m_fewest), .int (i32 m_wishes), .ref aX8_wished, .ref aX8_far, .ref aX8_queue, .int (i32 m_divided), .ref aX8_divisors, .ref aX8_least, .long (i64 m_pairOne), .long (i64 m_pairTwo), .long (i64 m_sumUp), .long (i64 m_sumDown)])), (aX8_row, aL X.cJ 17 m_row)] := by
  intro n
  induction n with
  | zero => intro l1 l2 r_l1 r_l2 h; exact False.elim h
  | succ n ih =>
    intro l1 l2 r_l1 r_l2 h
    rw [wp_X8_twice_5] at h
    refine q_iload_n g 2 2 rfl dX8_twice_5 ?_
    refine q_aload_n g 0 0 rfl dX8_twice_6 ?_
    refine q_get (C := RX8) (T := TX8) (N := 24) g 84 inX8 0 2 rfl rfl (by decide) wF_X8_84 rfl dX8_twice_7 ?_
    refine q_icmp_ge g (92) 102 r_l2 r_m_many (by decide) dX8_twice_10 (fun b10 => ?_) (fun b10 => ?_)
    · replace h := h.1 b10
      refine q_iload_n g 1 1 rfl dX8_twice_102 ?_
      exact q_iret g hF ⟨l1, rfl, rfl, r_l1, h⟩ dX8_twice_103
    replace h := h.2 b10
    refine q_iconst g (0) dX8_twice_13 ?_
    refine q_istore_n (lv' := [(3, .int (i32 0)), (0, .ref hX8), (1, .int (i32 l1)), (2, .int (i32 l2))]) g 3 3 rfl (by decide) rfl dX8_twice_14 ?_
    refine q_iconst g (0) dX8_twice_15 ?_
    refine q_istore (lv' := [(4, .int (i32 0)), (3, .int (i32 0)), (0, .ref hX8), (1, .int (i32 l1)), (2, .int (i32 l2))]) g 4   (by decide) rfl dX8_twice_16 ?_
    refine q_lv (lv' := [(0, .ref hX8), (1, .int (i32 l1)), (2, .int (i32 l2)), (3, .int (i32 0)), (4, .int (i32 0))]) [2, 3, 4, 1, 0] rfl ?_
    obtain ⟨n0, h⟩ := h
    exact s_X8_twice_18 g hR hX8 aX8_ups aX8_downs aX8_row m_isSpent m_found aX8_sumMany aX8_sumShares aX8_sumSet aX8_taken aX8_restUp aX8_restDown m_fewest m_wishes aX8_wished aX8_far aX8_queue m_divided aX8_divisors aX8_least m_pairOne m_pairTwo m_sumUp m_sumDown m_many m_row r_m_many r_m_row Q hF (wp_X8_twice_5 Q m_many m_row n) (fun v0 v1 w0 w1 hh => ih v0 v1 w0 w1 hh) n0 l1 l2 0 0 r_l1 r_l2 (r32_lit _ (by decide)) (r32_lit _ (by decide)) h
def wp_X8_twice (Q : Int → Prop) (m_many : Int) (m_row : Int → Int) : Prop := (∃ n0 : Nat, wp_X8_twice_5 Q m_many m_row n0 (-4) 0)
set_option maxHeartbeats 4000000 in
set_option maxRecDepth 100000 in
theorem c_X8_twice (l : Launch) (D : va_G) (cI cJ : ClassId) (zt : Nat) (hX8 : Nat) (aX8_ups : Nat) (aX8_downs : Nat) (m_many : Int) (aX8_row : Nat) (m_isSpent : Int) (m_found : Int) (aX8_sumMany : Nat) (aX8_sumShares : Nat) (aX8_sumSet : Nat) (aX8_taken : Nat) (aX8_restUp : Nat) (aX8_restDown : Nat) (m_fewest : Int) (m_wishes : Int) (aX8_wished : Nat) (aX8_far : Nat) (aX8_queue : Nat) (m_divided : Int) (aX8_divisors : Nat) (aX8_least : Nat) (m_pairOne : Int) (m_pairTwo : Int) (m_sumUp : Int) (m_sumDown : Int) (m_row : Int → Int) (Q : Int → Prop) (r_m_many : r32 m_many) (r_m_row : rr64 m_row) (h : wp_X8_twice Q m_many m_row) : Ct l D cI cJ zt yX8_twice cX8_twice 5 (some .int) 1 0 0 [.ref hX8] [(hX8, .inr (7, [.ref aX8_ups, .ref aX8_downs, .int (i32 m_many), .ref aX8_row, .int (i32 m_isSpent), .int (i32 m_found), .ref aX8_sumMany, .ref aX8_sumShares, .ref aX8_sumSet, .ref aX8_taken, .ref aX8_restUp, .ref aX8_restDown, .int (i32 m_fewest), .int (i32 m_wishes), .ref aX8_wished, .ref aX8_far, .ref aX8_queue, .int (i32 m_divided), .ref aX8_divisors, .ref aX8_least, .long (i64 m_pairOne), .long (i64 m_pairTwo), .long (i64 m_sumUp), .long (i64 m_sumDown)])), (aX8_row, aL cJ 17 m_row)] (po_X8_twice cI cJ hX8 aX8_ups aX8_downs m_many aX8_row m_isSpent m_found aX8_sumMany aX8_sumShares aX8_sumSet aX8_taken aX8_restUp aX8_restDown m_fewest m_wishes aX8_wished aX8_far aX8_queue m_divided aX8_divisors aX8_least m_pairOne m_pairTwo m_sumUp m_sumDown m_row Q) := by
  refine ct_of (by decide +kernel) (Nat.le_of_ble_eq_true rfl) (fun X hl hDD hcI hcJ hzt hR hF hnm g => ?_)
  subst hl; subst hDD; subst hcI; subst hcJ; subst hzt
  show Wat X 0 0 0 [(0, .ref hX8)] [] [(hX8, .inr (7, [.ref aX8_ups, .ref aX8_downs, .int (i32 m_many), .ref aX8_row, .int (i32 m_isSpent), .int (i32 m_found), .ref aX8_sumMany, .ref aX8_sumShares, .ref aX8_sumSet, .ref aX8_taken, .ref aX8_restUp, .ref aX8_restDown, .int (i32 m_fewest), .int (i32 m_wishes), .ref aX8_wished, .ref aX8_far, .ref aX8_queue, .int (i32 m_divided), .ref aX8_divisors, .ref aX8_least, .long (i64 m_pairOne), .long (i64 m_pairTwo), .long (i64 m_sumUp), .long (i64 m_sumDown)])), (aX8_row, aL X.cJ 17 m_row)]
  replace g : Gd X cX8_twice RX8 (some .int) 5 := g
  rw [wp_X8_twice] at h
  refine q_bipush g (-4) (by decide) (by decide) dX8_twice_0 ?_
  refine q_istore_n (lv' := [(1, .int (i32 (-4))), (0, .ref hX8)]) g 1 1 rfl (by decide) rfl dX8_twice_2 ?_
  refine q_iconst g (0) dX8_twice_3 ?_
  refine q_istore_n (lv' := [(2, .int (i32 0)), (1, .int (i32 (-4))), (0, .ref hX8)]) g 2 2 rfl (by decide) rfl dX8_twice_4 ?_
  refine q_lv (lv' := [(0, .ref hX8), (1, .int (i32 (-4))), (2, .int (i32 0))]) [2, 1, 0] rfl ?_
  obtain ⟨n0, h⟩ := h
  exact s_X8_twice_5 g hR hX8 aX8_ups aX8_downs aX8_row m_isSpent m_found aX8_sumMany aX8_sumShares aX8_sumSet aX8_taken aX8_restUp aX8_restDown m_fewest m_wishes aX8_wished aX8_far aX8_queue m_divided aX8_divisors aX8_least m_pairOne m_pairTwo m_sumUp m_sumDown m_many m_row r_m_many r_m_row Q hF n0 (-4) 0 (r32_lit _ (by decide)) (r32_lit _ (by decide)) h
theorem dX8_cutUp_0 : decode cX8_cutUp 0 = .ok (.aload_n 0, 1) := by decide +kernel
theorem dX8_cutUp_1 : decode cX8_cutUp 1 = .ok (.lload_n 1, 1) := by decide +kernel
theorem dX8_cutUp_2 : decode cX8_cutUp 2 = .ok (.ldc2_w 101, 3) := by decide +kernel
theorem dX8_cutUp_5 : decode cX8_cutUp 5 = .ok (.lcmp, 1) := by decide +kernel
theorem dX8_cutUp_6 : decode cX8_cutUp 6 = .ok (.ifCond .le 7, 3) := by decide +kernel
theorem dX8_cutUp_9 : decode cX8_cutUp 9 = .ok (.iconst 1, 1) := by decide +kernel
theorem dX8_cutUp_10 : decode cX8_cutUp 10 = .ok (.goto 4, 3) := by decide +kernel
theorem dX8_cutUp_13 : decode cX8_cutUp 13 = .ok (.iconst 0, 1) := by decide +kernel
theorem dX8_cutUp_14 : decode cX8_cutUp 14 = .ok (.putfield 80, 3) := by decide +kernel
theorem dX8_cutUp_17 : decode cX8_cutUp 17 = .ok (.lconst 0, 1) := by decide +kernel
theorem dX8_cutUp_18 : decode cX8_cutUp 18 = .ok (.lstore 5, 2) := by decide +kernel
theorem dX8_cutUp_20 : decode cX8_cutUp 20 = .ok (.lload 5, 2) := by decide +kernel
theorem dX8_cutUp_22 : decode cX8_cutUp 22 = .ok (.lload_n 1, 1) := by decide +kernel
theorem dX8_cutUp_23 : decode cX8_cutUp 23 = .ok (.lcmp, 1) := by decide +kernel
theorem dX8_cutUp_24 : decode cX8_cutUp 24 = .ok (.ifCond .ge 24, 3) := by decide +kernel
theorem dX8_cutUp_27 : decode cX8_cutUp 27 = .ok (.aload_n 0, 1) := by decide +kernel
theorem dX8_cutUp_28 : decode cX8_cutUp 28 = .ok (.getfield 80, 3) := by decide +kernel
theorem dX8_cutUp_31 : decode cX8_cutUp 31 = .ok (.ifCond .ne 17, 3) := by decide +kernel
theorem dX8_cutUp_34 : decode cX8_cutUp 34 = .ok (.aload_n 0, 1) := by decide +kernel
theorem dX8_cutUp_35 : decode cX8_cutUp 35 = .ok (.lload_n 3, 1) := by decide +kernel
theorem dX8_cutUp_36 : decode cX8_cutUp 36 = .ok (.invokevirtual 95, 3) := by decide +kernel
theorem dX8_cutUp_39 : decode cX8_cutUp 39 = .ok (.lload 5, 2) := by decide +kernel
theorem dX8_cutUp_41 : decode cX8_cutUp 41 = .ok (.lconst 1, 1) := by decide +kernel
theorem dX8_cutUp_42 : decode cX8_cutUp 42 = .ok (.ladd, 1) := by decide +kernel
theorem dX8_cutUp_43 : decode cX8_cutUp 43 = .ok (.lstore 5, 2) := by decide +kernel
theorem dX8_cutUp_45 : decode cX8_cutUp 45 = .ok (.goto (-25), 3) := by decide +kernel
theorem dX8_cutUp_48 : decode cX8_cutUp 48 = .ok (.aload_n 0, 1) := by decide +kernel
theorem dX8_cutUp_49 : decode cX8_cutUp 49 = .ok (.getfield 80, 3) := by decide +kernel
theorem dX8_cutUp_52 : decode cX8_cutUp 52 = .ok (.ifCond .eq 8, 3) := by decide +kernel
theorem dX8_cutUp_55 : decode cX8_cutUp 55 = .ok (.bipush (-4), 2) := by decide +kernel
theorem dX8_cutUp_57 : decode cX8_cutUp 57 = .ok (.goto 7, 3) := by decide +kernel
theorem dX8_cutUp_60 : decode cX8_cutUp 60 = .ok (.aload_n 0, 1) := by decide +kernel
theorem dX8_cutUp_61 : decode cX8_cutUp 61 = .ok (.invokevirtual 103, 3) := by decide +kernel
theorem dX8_cutUp_64 : decode cX8_cutUp 64 = .ok (.istore 5, 2) := by decide +kernel
theorem dX8_cutUp_66 : decode cX8_cutUp 66 = .ok (.iload 5, 2) := by decide +kernel
theorem dX8_cutUp_68 : decode cX8_cutUp 68 = .ok (.ifCond .lt 91, 3) := by decide +kernel
theorem dX8_cutUp_71 : decode cX8_cutUp 71 = .ok (.aload_n 0, 1) := by decide +kernel
theorem dX8_cutUp_72 : decode cX8_cutUp 72 = .ok (.getfield 80, 3) := by decide +kernel
theorem dX8_cutUp_75 : decode cX8_cutUp 75 = .ok (.ifCond .ne 84, 3) := by decide +kernel
theorem dX8_cutUp_78 : decode cX8_cutUp 78 = .ok (.aload_n 0, 1) := by decide +kernel
theorem dX8_cutUp_79 : decode cX8_cutUp 79 = .ok (.getfield 16, 3) := by decide +kernel
theorem dX8_cutUp_82 : decode cX8_cutUp 82 = .ok (.iload 5, 2) := by decide +kernel
theorem dX8_cutUp_84 : decode cX8_cutUp 84 = .ok (.laload, 1) := by decide +kernel
theorem dX8_cutUp_85 : decode cX8_cutUp 85 = .ok (.lstore 6, 2) := by decide +kernel
theorem dX8_cutUp_87 : decode cX8_cutUp 87 = .ok (.aload_n 0, 1) := by decide +kernel
theorem dX8_cutUp_88 : decode cX8_cutUp 88 = .ok (.getfield 16, 3) := by decide +kernel
theorem dX8_cutUp_91 : decode cX8_cutUp 91 = .ok (.iload 5, 2) := by decide +kernel
theorem dX8_cutUp_93 : decode cX8_cutUp 93 = .ok (.lload 6, 2) := by decide +kernel
theorem dX8_cutUp_95 : decode cX8_cutUp 95 = .ok (.lconst 1, 1) := by decide +kernel
theorem dX8_cutUp_96 : decode cX8_cutUp 96 = .ok (.ladd, 1) := by decide +kernel
theorem dX8_cutUp_97 : decode cX8_cutUp 97 = .ok (.lastore, 1) := by decide +kernel
theorem dX8_cutUp_98 : decode cX8_cutUp 98 = .ok (.aload_n 0, 1) := by decide +kernel
theorem dX8_cutUp_99 : decode cX8_cutUp 99 = .ok (.lload 6, 2) := by decide +kernel
theorem dX8_cutUp_101 : decode cX8_cutUp 101 = .ok (.lconst 1, 1) := by decide +kernel
theorem dX8_cutUp_102 : decode cX8_cutUp 102 = .ok (.ladd, 1) := by decide +kernel
theorem dX8_cutUp_103 : decode cX8_cutUp 103 = .ok (.ldc2_w 87, 3) := by decide +kernel
theorem dX8_cutUp_106 : decode cX8_cutUp 106 = .ok (.lcmp, 1) := by decide +kernel
theorem dX8_cutUp_107 : decode cX8_cutUp 107 = .ok (.ifCond .gt 17, 3) := by decide +kernel
theorem dX8_cutUp_110 : decode cX8_cutUp 110 = .ok (.lload 6, 2) := by decide +kernel
theorem dX8_cutUp_112 : decode cX8_cutUp 112 = .ok (.ldc2_w 87, 3) := by decide +kernel
theorem dX8_cutUp_115 : decode cX8_cutUp 115 = .ok (.lload 6, 2) := by decide +kernel
theorem dX8_cutUp_117 : decode cX8_cutUp 117 = .ok (.lconst 1, 1) := by decide +kernel
theorem dX8_cutUp_118 : decode cX8_cutUp 118 = .ok (.ladd, 1) := by decide +kernel
theorem dX8_cutUp_119 : decode cX8_cutUp 119 = .ok (.ldiv, 1) := by decide +kernel
theorem dX8_cutUp_120 : decode cX8_cutUp 120 = .ok (.lcmp, 1) := by decide +kernel
theorem dX8_cutUp_121 : decode cX8_cutUp 121 = .ok (.ifCond .le 7, 3) := by decide +kernel
theorem dX8_cutUp_124 : decode cX8_cutUp 124 = .ok (.iconst 1, 1) := by decide +kernel
theorem dX8_cutUp_125 : decode cX8_cutUp 125 = .ok (.goto 4, 3) := by decide +kernel
theorem dX8_cutUp_128 : decode cX8_cutUp 128 = .ok (.iconst 0, 1) := by decide +kernel
theorem dX8_cutUp_129 : decode cX8_cutUp 129 = .ok (.putfield 80, 3) := by decide +kernel
theorem dX8_cutUp_132 : decode cX8_cutUp 132 = .ok (.aload_n 0, 1) := by decide +kernel
theorem dX8_cutUp_133 : decode cX8_cutUp 133 = .ok (.getfield 80, 3) := by decide +kernel
theorem dX8_cutUp_136 : decode cX8_cutUp 136 = .ok (.ifCond .ne 20, 3) := by decide +kernel
theorem dX8_cutUp_139 : decode cX8_cutUp 139 = .ok (.aload_n 0, 1) := by decide +kernel
theorem dX8_cutUp_140 : decode cX8_cutUp 140 = .ok (.lload 6, 2) := by decide +kernel
theorem dX8_cutUp_142 : decode cX8_cutUp 142 = .ok (.lload 6, 2) := by decide +kernel
theorem dX8_cutUp_144 : decode cX8_cutUp 144 = .ok (.lconst 1, 1) := by decide +kernel
theorem dX8_cutUp_145 : decode cX8_cutUp 145 = .ok (.ladd, 1) := by decide +kernel
theorem dX8_cutUp_146 : decode cX8_cutUp 146 = .ok (.lmul, 1) := by decide +kernel
theorem dX8_cutUp_147 : decode cX8_cutUp 147 = .ok (.invokevirtual 95, 3) := by decide +kernel
theorem dX8_cutUp_150 : decode cX8_cutUp 150 = .ok (.aload_n 0, 1) := by decide +kernel
theorem dX8_cutUp_151 : decode cX8_cutUp 151 = .ok (.invokevirtual 103, 3) := by decide +kernel
theorem dX8_cutUp_154 : decode cX8_cutUp 154 = .ok (.istore 5, 2) := by decide +kernel
theorem dX8_cutUp_156 : decode cX8_cutUp 156 = .ok (.goto (-90), 3) := by decide +kernel
theorem dX8_cutUp_159 : decode cX8_cutUp 159 = .ok (.return_, 1) := by decide +kernel
abbrev po_X8_cutUp (cI cJ : ClassId) (hX8 : Nat) (aX8_ups : Nat) (aX8_downs : Nat) (aX8_row : Nat) (m_found : Int) (aX8_sumMany : Nat) (aX8_sumShares : Nat) (aX8_sumSet : Nat) (aX8_taken : Nat) (aX8_restUp : Nat) (aX8_restDown : Nat) (m_fewest : Int) (m_wishes : Int) (aX8_wished : Nat) (aX8_far : Nat) (aX8_queue : Nat) (m_divided : Int) (aX8_divisors : Nat) (aX8_least : Nat) (m_pairOne : Int) (m_pairTwo : Int) (m_sumUp : Int) (m_sumDown : Int) (Q : Int → (Int → Int) → Int → Prop) : Option Value → va_W → Prop := fun rv w1 => ∃ (m_many : Int) (m_row : Int → Int) (m_isSpent : Int), rv = none ∧ w1 = [(hX8, .inr (7, [.ref aX8_ups, .ref aX8_downs, .int (i32 m_many), .ref aX8_row, .int (i32 m_isSpent), .int (i32 m_found), .ref aX8_sumMany, .ref aX8_sumShares, .ref aX8_sumSet, .ref aX8_taken, .ref aX8_restUp, .ref aX8_restDown, .int (i32 m_fewest), .int (i32 m_wishes), .ref aX8_wished, .ref aX8_far, .ref aX8_queue, .int (i32 m_divided), .ref aX8_divisors, .ref aX8_least, .long (i64 m_pairOne), .long (i64 m_pairTwo), .long (i64 m_sumUp), .long (i64 m_sumDown)])), (aX8_row, aL cJ 17 m_row)] ∧ r32 m_many ∧ rr64 m_row ∧ r32 m_isSpent ∧ Q m_many m_row m_isSpent
def wp_X8_cutUp_156 (Q : Int → (Int → Int) → Int → Prop) (K_66 : Int → (Int → Int) → Int → Int → Prop) (m_many : Int) (m_row : Int → Int) (m_isSpent : Int) (l5 : Int) : Prop := K_66 m_many m_row m_isSpent l5
set_option maxHeartbeats 4000000 in
set_option maxRecDepth 100000 in
theorem s_X8_cutUp_156 {X : Cx} (g : Gd X cX8_cutUp RX8 none 8) (hR : X.R = rmL 2 0 0) (hX8 : Nat) (aX8_ups : Nat) (aX8_downs : Nat) (aX8_row : Nat) (m_found : Int) (aX8_sumMany : Nat) (aX8_sumShares : Nat) (aX8_sumSet : Nat) (aX8_taken : Nat) (aX8_restUp : Nat) (aX8_restDown : Nat) (m_fewest : Int) (m_wishes : Int) (aX8_wished : Nat) (aX8_far : Nat) (aX8_queue : Nat) (m_divided : Int) (aX8_divisors : Nat) (aX8_least : Nat) (m_pairOne : Int) (m_pairTwo : Int) (m_sumUp : Int) (m_sumDown : Int) (Q : Int → (Int → Int) → Int → Prop) (hF : FQ X 0 0 (po_X8_cutUp X.cI X.cJ hX8 aX8_ups aX8_downs aX8_row m_found aX8_sumMany aX8_sumShares aX8_sumSet aX8_taken aX8_restUp aX8_restDown m_fewest m_wishes aX8_wished aX8_far aX8_queue m_divided aX8_divisors aX8_least m_pairOne m_pairTwo m_sumUp m_sumDown Q)) (K_66 : Int → (Int → Int) → Int → Int → Prop) (hK_66 : ∀ (m_many : Int) (m_row : Int → Int) (m_isSpent : Int) (l5 : Int), r32 m_many → rr64 m_row → r32 m_isSpent → r32 l5 → K_66 m_many m_row m_isSpent l5 → Wat X 0 0 66 [(0, .ref hX8), (5, .int (i32 l5))] [] [(hX8, .inr (7, [.ref aX8_ups, .ref aX8_downs, .int (i32 m_many), .ref aX8_row, .int (i32 m_isSpent), .int (i32 m_found), .ref aX8_sumMany, .ref aX8_sumShares, .ref aX8_sumSet, .ref aX8_taken, .ref aX8_restUp, .ref aX8_restDown, .int (i32 m_fewest), .int (i32 m_wishes), .ref aX8_wished, .ref aX8_far, .ref aX8_queue, .int (i32 m_divided), .ref aX8_divisors, .ref aX8_least, .long (i64 m_pairOne), .long (i64 m_pairTwo), .long (i64 m_sumUp), .long (i64 m_sumDown)])), (aX8_row, aL X.cJ 17 m_row)]) : ∀ (m_many : Int) (m_row : Int → Int) (m_isSpent : Int) (l5 : Int), r32 m_many → rr64 m_row → r32 m_isSpent → r32 l5 → wp_X8_cutUp_156 Q K_66 m_many m_row m_isSpent l5 → Wat X 0 0 156 [(0, .ref hX8), (5, .int (i32 l5))] [] [(hX8, .inr (7, [.ref aX8_ups, .ref aX8_downs, .int (i32 m_many), .ref aX8_row, .int (i32 m_isSpent), .int (i32 m_found), .ref aX8_sumMany, .ref aX8_sumShares, .ref aX8_sumSet, .ref aX8_taken, .ref aX8_restUp, .ref aX8_restDown, .int (i32 m_fewest), .int (i32 m_wishes), .ref aX8_wished, .ref aX8_far, .ref aX8_queue, .int (i32 m_divided), .ref aX8_divisors, .ref aX8_least, .long (i64 m_pairOne), .long (i64 m_pairTwo), .long (i64 m_sumUp), .long (i64 m_sumDown)])), (aX8_row, aL X.cJ 17 m_row)] := by
  intro m_many m_row m_isSpent l5 r_m_many r_m_row r_m_isSpent r_l5 h
  rw [wp_X8_cutUp_156] at h
  refine q_goto g (-90) 66 (by decide) dX8_cutUp_156 ?_
  exact hK_66 m_many m_row m_isSpent l5 r_m_many r_m_row r_m_isSpent r_l5 h
def wp_X8_cutUp_129 (Q : Int → (Int → Int) → Int → Prop) (K_66 : Int → (Int → Int) → Int → Int → Prop) (m_many : Int) (m_row : Int → Int) (m_isSpent : Int) (l5 : Int) (l6 : Int) (k1 : Int) : Prop := ((k1 = 0 ∨ k1 = 1) ∧ ((¬ k1 = 0 → wp_X8_cutUp_156 Q K_66 m_many m_row k1 l5) ∧
  (k1 = 0 → (r64 (l6 + 1) ∧ r64 (l6 * (l6 + 1)) ∧ wp_X8_put (fun (m_many_147 : Int) (m_row_147 : Int → Int) (m_isSpent_147 : Int) => wp_X8_twice (fun (x151 : Int) => wp_X8_cutUp_156 Q K_66 m_many_147 m_row_147 m_isSpent_147 x151) m_many_147 m_row_147) m_many m_row k1 (l6 * (l6 + 1))))))
set_option maxHeartbeats 4000000 in
set_option maxRecDepth 100000 in
theorem s_X8_cutUp_129 {X : Cx} (g : Gd X cX8_cutUp RX8 none 8) (hR : X.R = rmL 2 0 0) (hX8 : Nat) (aX8_ups : Nat) (aX8_downs : Nat) (aX8_row : Nat) (m_found : Int) (aX8_sumMany : Nat) (aX8_sumShares : Nat) (aX8_sumSet : Nat) (aX8_taken : Nat) (aX8_restUp : Nat) (aX8_restDown : Nat) (m_fewest : Int) (m_wishes : Int) (aX8_wished : Nat) (aX8_far : Nat) (aX8_queue : Nat) (m_divided : Int) (aX8_divisors : Nat) (aX8_least : Nat) (m_pairOne : Int) (m_pairTwo : Int) (m_sumUp : Int) (m_sumDown : Int) (Q : Int → (Int → Int) → Int → Prop) (hF : FQ X 0 0 (po_X8_cutUp X.cI X.cJ hX8 aX8_ups aX8_downs aX8_row m_found aX8_sumMany aX8_sumShares aX8_sumSet aX8_taken aX8_restUp aX8_restDown m_fewest m_wishes aX8_wished aX8_far aX8_queue m_divided aX8_divisors aX8_least m_pairOne m_pairTwo m_sumUp m_sumDown Q)) (K_66 : Int → (Int → Int) → Int → Int → Prop) (hK_66 : ∀ (m_many : Int) (m_row : Int → Int) (m_isSpent : Int) (l5 : Int), r32 m_many → rr64 m_row → r32 m_isSpent → r32 l5 → K_66 m_many m_row m_isSpent l5 → Wat X 0 0 66 [(0, .ref hX8), (5, .int (i32 l5))] [] [(hX8, .inr (7, [.ref aX8_ups, .ref aX8_downs, .int (i32 m_many), .ref aX8_row, .int (i32 m_isSpent), .int (i32 m_found), .ref aX8_sumMany, .ref aX8_sumShares, .ref aX8_sumSet, .ref aX8_taken, .ref aX8_restUp, .ref aX8_restDown, .int (i32 m_fewest), .int (i32 m_wishes), .ref aX8_wished, .ref aX8_far, .ref aX8_queue, .int (i32 m_divided), .ref aX8_divisors, .ref aX8_least, .long (i64 m_pairOne), .long (i64 m_pairTwo), .long (i64 m_sumUp), .long (i64 m_sumDown)])), (aX8_row, aL X.cJ 17 m_row)]) : ∀ (m_many : Int) (m_row : Int → Int) (m_isSpent : Int) (l5 : Int) (l6 : Int) (k1 : Int), r32 m_many → rr64 m_row → r32 m_isSpent → r32 l5 → r64 l6 → r32 k1 → wp_X8_cutUp_129 Q K_66 m_many m_row m_isSpent l5 l6 k1 → Wat X 0 0 129 [(0, .ref hX8), (5, .int (i32 l5)), (6, .long (i64 l6))] [.int (i32 k1), .ref hX8] [(hX8, .inr (7, [.ref aX8_ups, .ref aX8_downs, .int (i32 m_many), .ref aX8_row, .int (i32 m_isSpent), .int (i32 m_found), .ref aX8_sumMany, .ref aX8_sumShares, .ref aX8_sumSet, .ref aX8_taken, .ref aX8_restUp, .ref aX8_restDown, .int (i32 m_fewest), .int (i32 m_wishes), .ref aX8_wished, .ref aX8_far, .ref aX8_queue, .int (i32 m_divided), .ref aX8_divisors, .ref aX8_least, .long (i64 m_pairOne), .long (i64 m_pairTwo), .long (i64 m_sumUp), .long (i64 m_sumDown)])), (aX8_row, aL X.cJ 17 m_row)] := by
  intro m_many m_row m_isSpent l5 l6 k1 r_m_many r_m_row r_m_isSpent r_l5 r_l6 r_k1 h
  rw [wp_X8_cutUp_129] at h
  obtain ⟨z129, h⟩ := h
  refine q_put (C := RX8) (T := TX8) (N := 24) (ty := .boolean) (ws' := [(hX8, .inr (7, [.ref aX8_ups, .ref aX8_downs, .int (i32 m_many), .ref aX8_row, .int (i32 k1), .int (i32 m_found), .ref aX8_sumMany, .ref aX8_sumShares, .ref aX8_sumSet, .ref aX8_taken, .ref aX8_restUp, .ref aX8_restDown, .int (i32 m_fewest), .int (i32 m_wishes), .ref aX8_wished, .ref aX8_far, .ref aX8_queue, .int (i32 m_divided), .ref aX8_divisors, .ref aX8_least, .long (i64 m_pairOne), .long (i64 m_pairTwo), .long (i64 m_sumUp), .long (i64 m_sumDown)])), (aX8_row, aL X.cJ 17 m_row)]) g 80 inX8 tyX8_ok nmX8 0 4 rfl rfl (by decide) wF_X8_80 rfl rfl (zb_n z129) (zb_f z129) (Nat.le_of_ble_eq_true rfl) rfl dX8_cutUp_129 ?_
  refine q_aload_n g 0 0 rfl dX8_cutUp_132 ?_
  refine q_get (C := RX8) (T := TX8) (N := 24) g 80 inX8 0 4 rfl rfl (by decide) wF_X8_80 rfl dX8_cutUp_133 ?_
  refine q_if_ne g (20) 156 r_k1 (by decide) dX8_cutUp_136 (fun b136 => ?_) (fun b136 => ?_)
  · replace h := h.1 b136
    refine q_lv (lv' := [(0, .ref hX8), (5, .int (i32 l5))]) [0, 1] rfl ?_
    exact s_X8_cutUp_156 g hR hX8 aX8_ups aX8_downs aX8_row m_found aX8_sumMany aX8_sumShares aX8_sumSet aX8_taken aX8_restUp aX8_restDown m_fewest m_wishes aX8_wished aX8_far aX8_queue m_divided aX8_divisors aX8_least m_pairOne m_pairTwo m_sumUp m_sumDown Q hF K_66 hK_66 m_many m_row k1 l5 r_m_many r_m_row r_k1 r_l5 h
  replace h := h.2 b136
  refine q_aload_n g 0 0 rfl dX8_cutUp_139 ?_
  refine q_lload g 6 2 rfl dX8_cutUp_140 ?_
  refine q_lload g 6 2 rfl dX8_cutUp_142 ?_
  refine q_lconst g 1 1 rfl dX8_cutUp_144 ?_
  obtain ⟨c145, h⟩ := h
  refine q_ladd g dX8_cutUp_145 ?_
  obtain ⟨c146, h⟩ := h
  refine q_lmul g dX8_cutUp_146 ?_
  refine q_callV (lev := 1) (mc := 0) (ms := 0) g 95 (c_X8_put X.l X.D X.cI X.cJ X.zt hX8 aX8_ups aX8_downs m_many aX8_row k1 m_found aX8_sumMany aX8_sumShares aX8_sumSet aX8_taken aX8_restUp aX8_restDown m_fewest m_wishes aX8_wished aX8_far aX8_queue m_divided aX8_divisors aX8_least m_pairOne m_pairTwo m_sumUp m_sumDown m_row (l6 * (l6 + 1)) _ r_m_many r_m_row r_k1 c146 h) (wr := []) [0, 1] [] rfl rfl rfl (by decide) (by decide) (by decide) (ci := 7) rfl rfl rfl wM_X8_95 wI_X8_put wS_X8_put wZ_X8 wC_X8_put 1 rfl (by decide +kernel) (by rw [hR]; exact ⟨by show 1 + 1 ≤ 2; omega, by show 8 + (3 + 11) + 100 * 1 ≤ 100 * 2; omega⟩) (by rw [hR]; exact ⟨Nat.le_refl _, Nat.le_refl _⟩) (Nat.le_of_ble_eq_true rfl) rfl dX8_cutUp_147 (fun rv w1 hq => ?_)
  obtain ⟨m_many_147, m_row_147, m_isSpent_147, rfl, rfl, rm_many_147, rm_row_147, rm_isSpent_147, h⟩ := hq
  show Wat X 0 0 150 [(0, .ref hX8), (5, .int (i32 l5)), (6, .long (i64 l6))] [] [(hX8, .inr (7, [.ref aX8_ups, .ref aX8_downs, .int (i32 m_many_147), .ref aX8_row, .int (i32 m_isSpent_147), .int (i32 m_found), .ref aX8_sumMany, .ref aX8_sumShares, .ref aX8_sumSet, .ref aX8_taken, .ref aX8_restUp, .ref aX8_restDown, .int (i32 m_fewest), .int (i32 m_wishes), .ref aX8_wished, .ref aX8_far, .ref aX8_queue, .int (i32 m_divided), .ref aX8_divisors, .ref aX8_least, .long (i64 m_pairOne), .long (i64 m_pairTwo), .long (i64 m_sumUp), .long (i64 m_sumDown)])), (aX8_row, aL X.cJ 17 m_row_147)]
  refine q_aload_n g 0 0 rfl dX8_cutUp_150 ?_
  refine q_callV (lev := 1) (mc := 0) (ms := 0) g 103 (c_X8_twice X.l X.D X.cI X.cJ X.zt hX8 aX8_ups aX8_downs m_many_147 aX8_row m_isSpent_147 m_found aX8_sumMany aX8_sumShares aX8_sumSet aX8_taken aX8_restUp aX8_restDown m_fewest m_wishes aX8_wished aX8_far aX8_queue m_divided aX8_divisors aX8_least m_pairOne m_pairTwo m_sumUp m_sumDown m_row_147 _ rm_many_147 rm_row_147 h) (wr := []) [0, 1] [] rfl rfl rfl (by decide) (by decide) (by decide) (ci := 7) rfl rfl rfl wM_X8_103 wI_X8_twice wS_X8_twice wZ_X8 wC_X8_twice 0 rfl (by decide +kernel) (by rw [hR]; exact ⟨by show 1 + 1 ≤ 2; omega, by show 8 + (5 + 11) + 100 * 1 ≤ 100 * 2; omega⟩) (by rw [hR]; exact ⟨Nat.le_refl _, Nat.le_refl _⟩) (Nat.le_of_ble_eq_true rfl) rfl dX8_cutUp_151 (fun rv w1 hq => ?_)
  obtain ⟨x151, rfl, rfl, rx151, h⟩ := hq
  show Wat X 0 0 154 [(0, .ref hX8), (5, .int (i32 l5)), (6, .long (i64 l6))] [.int (i32 x151)] [(hX8, .inr (7, [.ref aX8_ups, .ref aX8_downs, .int (i32 m_many_147), .ref aX8_row, .int (i32 m_isSpent_147), .int (i32 m_found), .ref aX8_sumMany, .ref aX8_sumShares, .ref aX8_sumSet, .ref aX8_taken, .ref aX8_restUp, .ref aX8_restDown, .int (i32 m_fewest), .int (i32 m_wishes), .ref aX8_wished, .ref aX8_far, .ref aX8_queue, .int (i32 m_divided), .ref aX8_divisors, .ref aX8_least, .long (i64 m_pairOne), .long (i64 m_pairTwo), .long (i64 m_sumUp), .long (i64 m_sumDown)])), (aX8_row, aL X.cJ 17 m_row_147)]
  refine q_istore (lv' := [(5, .int (i32 x151)), (0, .ref hX8), (6, .long (i64 l6))]) g 5   (by decide) rfl dX8_cutUp_154 ?_
  refine q_lv (lv' := [(0, .ref hX8), (5, .int (i32 x151))]) [1, 0] rfl ?_
  exact s_X8_cutUp_156 g hR hX8 aX8_ups aX8_downs aX8_row m_found aX8_sumMany aX8_sumShares aX8_sumSet aX8_taken aX8_restUp aX8_restDown m_fewest m_wishes aX8_wished aX8_far aX8_queue m_divided aX8_divisors aX8_least m_pairOne m_pairTwo m_sumUp m_sumDown Q hF K_66 hK_66 m_many_147 m_row_147 m_isSpent_147 x151 rm_many_147 rm_row_147 rm_isSpent_147 rx151 h
def wp_X8_cutUp_124 (Q : Int → (Int → Int) → Int → Prop) (K_66 : Int → (Int → Int) → Int → Int → Prop) (m_many : Int) (m_row : Int → Int) (m_isSpent : Int) (l5 : Int) (l6 : Int) : Prop := wp_X8_cutUp_129 Q K_66 m_many m_row m_isSpent l5 l6 1
set_option maxHeartbeats 4000000 in
set_option maxRecDepth 100000 in
theorem s_X8_cutUp_124 {X : Cx} (g : Gd X cX8_cutUp RX8 none 8) (hR : X.R = rmL 2 0 0) (hX8 : Nat) (aX8_ups : Nat) (aX8_downs : Nat) (aX8_row : Nat) (m_found : Int) (aX8_sumMany : Nat) (aX8_sumShares : Nat) (aX8_sumSet : Nat) (aX8_taken : Nat) (aX8_restUp : Nat) (aX8_restDown : Nat) (m_fewest : Int) (m_wishes : Int) (aX8_wished : Nat) (aX8_far : Nat) (aX8_queue : Nat) (m_divided : Int) (aX8_divisors : Nat) (aX8_least : Nat) (m_pairOne : Int) (m_pairTwo : Int) (m_sumUp : Int) (m_sumDown : Int) (Q : Int → (Int → Int) → Int → Prop) (hF : FQ X 0 0 (po_X8_cutUp X.cI X.cJ hX8 aX8_ups aX8_downs aX8_row m_found aX8_sumMany aX8_sumShares aX8_sumSet aX8_taken aX8_restUp aX8_restDown m_fewest m_wishes aX8_wished aX8_far aX8_queue m_divided aX8_divisors aX8_least m_pairOne m_pairTwo m_sumUp m_sumDown Q)) (K_66 : Int → (Int → Int) → Int → Int → Prop) (hK_66 : ∀ (m_many : Int) (m_row : Int → Int) (m_isSpent : Int) (l5 : Int), r32 m_many → rr64 m_row → r32 m_isSpent → r32 l5 → K_66 m_many m_row m_isSpent l5 → Wat X 0 0 66 [(0, .ref hX8), (5, .int (i32 l5))] [] [(hX8, .inr (7, [.ref aX8_ups, .ref aX8_downs, .int (i32 m_many), .ref aX8_row, .int (i32 m_isSpent), .int (i32 m_found), .ref aX8_sumMany, .ref aX8_sumShares, .ref aX8_sumSet, .ref aX8_taken, .ref aX8_restUp, .ref aX8_restDown, .int (i32 m_fewest), .int (i32 m_wishes), .ref aX8_wished, .ref aX8_far, .ref aX8_queue, .int (i32 m_divided), .ref aX8_divisors, .ref aX8_least, .long (i64 m_pairOne), .long (i64 m_pairTwo), .long (i64 m_sumUp), .long (i64 m_sumDown)])), (aX8_row, aL X.cJ 17 m_row)]) : ∀ (m_many : Int) (m_row : Int → Int) (m_isSpent : Int) (l5 : Int) (l6 : Int), r32 m_many → rr64 m_row → r32 m_isSpent → r32 l5 → r64 l6 → wp_X8_cutUp_124 Q K_66 m_many m_row m_isSpent l5 l6 → Wat X 0 0 124 [(0, .ref hX8), (5, .int (i32 l5)), (6, .long (i64 l6))] [.ref hX8] [(hX8, .inr (7, [.ref aX8_ups, .ref aX8_downs, .int (i32 m_many), .ref aX8_row, .int (i32 m_isSpent), .int (i32 m_found), .ref aX8_sumMany, .ref aX8_sumShares, .ref aX8_sumSet, .ref aX8_taken, .ref aX8_restUp, .ref aX8_restDown, .int (i32 m_fewest), .int (i32 m_wishes), .ref aX8_wished, .ref aX8_far, .ref aX8_queue, .int (i32 m_divided), .ref aX8_divisors, .ref aX8_least, .long (i64 m_pairOne), .long (i64 m_pairTwo), .long (i64 m_sumUp), .long (i64 m_sumDown)])), (aX8_row, aL X.cJ 17 m_row)] := by
  intro m_many m_row m_isSpent l5 l6 r_m_many r_m_row r_m_isSpent r_l5 r_l6 h
  rw [wp_X8_cutUp_124] at h
  refine q_iconst g (1) dX8_cutUp_124 ?_
  refine q_goto g (4) 129 (by decide) dX8_cutUp_125 ?_
  exact s_X8_cutUp_129 g hR hX8 aX8_ups aX8_downs aX8_row m_found aX8_sumMany aX8_sumShares aX8_sumSet aX8_taken aX8_restUp aX8_restDown m_fewest m_wishes aX8_wished aX8_far aX8_queue m_divided aX8_divisors aX8_least m_pairOne m_pairTwo m_sumUp m_sumDown Q hF K_66 hK_66 m_many m_row m_isSpent l5 l6 1 r_m_many r_m_row r_m_isSpent r_l5 r_l6 (r32_lit _ (by decide)) h
def wp_X8_cutUp_159 (Q : Int → (Int → Int) → Int → Prop) (m_many : Int) (m_row : Int → Int) (m_isSpent : Int) : Prop := Q m_many m_row m_isSpent
set_option maxHeartbeats 4000000 in
set_option maxRecDepth 100000 in
theorem s_X8_cutUp_159 {X : Cx} (g : Gd X cX8_cutUp RX8 none 8) (hR : X.R = rmL 2 0 0) (hX8 : Nat) (aX8_ups : Nat) (aX8_downs : Nat) (aX8_row : Nat) (m_found : Int) (aX8_sumMany : Nat) (aX8_sumShares : Nat) (aX8_sumSet : Nat) (aX8_taken : Nat) (aX8_restUp : Nat) (aX8_restDown : Nat) (m_fewest : Int) (m_wishes : Int) (aX8_wished : Nat) (aX8_far : Nat) (aX8_queue : Nat) (m_divided : Int) (aX8_divisors : Nat) (aX8_least : Nat) (m_pairOne : Int) (m_pairTwo : Int) (m_sumUp : Int) (m_sumDown : Int) (Q : Int → (Int → Int) → Int → Prop) (hF : FQ X 0 0 (po_X8_cutUp X.cI X.cJ hX8 aX8_ups aX8_downs aX8_row m_found aX8_sumMany aX8_sumShares aX8_sumSet aX8_taken aX8_restUp aX8_restDown m_fewest m_wishes aX8_wished aX8_far aX8_queue m_divided aX8_divisors aX8_least m_pairOne m_pairTwo m_sumUp m_sumDown Q)) : ∀ (m_many : Int) (m_row : Int → Int) (m_isSpent : Int), r32 m_many → rr64 m_row → r32 m_isSpent → wp_X8_cutUp_159 Q m_many m_row m_isSpent → Wat X 0 0 159 [] [] [(hX8, .inr (7, [.ref aX8_ups, .ref aX8_downs, .int (i32 m_many), .ref aX8_row, .int (i32 m_isSpent), .int (i32 m_found), .ref aX8_sumMany, .ref aX8_sumShares, .ref aX8_sumSet, .ref aX8_taken, .ref aX8_restUp, .ref aX8_restDown, .int (i32 m_fewest), .int (i32 m_wishes), .ref aX8_wished, .ref aX8_far, .ref aX8_queue, .int (i32 m_divided), .ref aX8_divisors, .ref aX8_least, .long (i64 m_pairOne), .long (i64 m_pairTwo), .long (i64 m_sumUp), .long (i64 m_sumDown)])), (aX8_row, aL X.cJ 17 m_row)] := by
  intro m_many m_row m_isSpent r_m_many r_m_row r_m_isSpent h
  rw [wp_X8_cutUp_159] at h
  exact q_vret g hF ⟨m_many, m_row, m_isSpent, rfl, rfl, r_m_many, r_m_row, r_m_isSpent, h⟩ dX8_cutUp_159
def wp_X8_cutUp_66 (Q : Int → (Int → Int) → Int → Prop) : Nat → Int → (Int → Int) → Int → Int → Prop
  | 0, _, _, _, _ => False
  | n + 1, m_many, m_row, m_isSpent, l5 => ((l5 < 0 → wp_X8_cutUp_159 Q m_many m_row m_isSpent) ∧
  (¬ (l5 < 0) → ((¬ m_isSpent = 0 → wp_X8_cutUp_159 Q m_many m_row m_isSpent) ∧
  (m_isSpent = 0 → (0 ≤ l5 ∧ l5 < 17 ∧ ∀ x85 : Int, x85 = (m_row l5) → r64 (x85 + 1) ∧ ∀ x97 : Int, x97 = (x85 + 1) → 0 ≤ l5 ∧ l5 < 17 ∧ r64 (x85 + 1) ∧ ((1000000000000 < (x85 + 1) → wp_X8_cutUp_124 Q (wp_X8_cutUp_66 Q n) m_many (ups m_row l5 x97) m_isSpent l5 x85) ∧
  (¬ (1000000000000 < (x85 + 1)) → (r64 (x85 + 1) ∧ 0 < (x85 + 1) ∧ ((x85 ≤ (Int.tdiv 1000000000000 (x85 + 1)) → wp_X8_cutUp_129 Q (wp_X8_cutUp_66 Q n) m_many (ups m_row l5 x97) m_isSpent l5 x85 0) ∧
  (¬ (x85 ≤ (Int.tdiv 1000000000000 (x85 + 1))) → wp_X8_cutUp_124 Q (wp_X8_cutUp_66 Q n) m_many (ups m_row l5 x97) m_isSpent l5 x85))))))))))
set_option maxHeartbeats 4000000 in
set_option maxRecDepth 100000 in
theorem s_X8_cutUp_66 {X : Cx} (g : Gd X cX8_cutUp RX8 none 8) (hR : X.R = rmL 2 0 0) (hX8 : Nat) (aX8_ups : Nat) (aX8_downs : Nat) (aX8_row : Nat) (m_found : Int) (aX8_sumMany : Nat) (aX8_sumShares : Nat) (aX8_sumSet : Nat) (aX8_taken : Nat) (aX8_restUp : Nat) (aX8_restDown : Nat) (m_fewest : Int) (m_wishes : Int) (aX8_wished : Nat) (aX8_far : Nat) (aX8_queue : Nat) (m_divided : Int) (aX8_divisors : Nat) (aX8_least : Nat) (m_pairOne : Int) (m_pairTwo : Int) (m_sumUp : Int) (m_sumDown : Int) (Q : Int → (Int → Int) → Int → Prop) (hF : FQ X 0 0 (po_X8_cutUp X.cI X.cJ hX8 aX8_ups aX8_downs aX8_row m_found aX8_sumMany aX8_sumShares aX8_sumSet aX8_taken aX8_restUp aX8_restDown m_fewest m_wishes aX8_wished aX8_far aX8_queue m_divided aX8_divisors aX8_least m_pairOne m_pairTwo m_sumUp m_sumDown Q)) : ∀ (n : Nat) (m_many : Int) (m_row : Int → Int) (m_isSpent : Int) (l5 : Int), r32 m_many → rr64 m_row → r32 m_isSpent → r32 l5 → wp_X8_cutUp_66 Q n m_many m_row m_isSpent l5 → Wat X 0 0 66 [(0, .ref hX8), (5, .int (i32 l5))] [] [(hX8, .inr (7, [.ref aX8_ups, .ref aX8_downs, .int (i32 m_many), .ref aX8_row, .int (i32 m_isSpent), .int (i32 m_found), .ref aX8_sumMany, .ref aX8_sumShares, .ref aX8_sumSet, .ref aX8_taken, .ref aX8_restUp, .ref aX8_restDown, .int (i32 m_fewest), .int (i32 m_wishes), .ref aX8_wished, .ref aX8_far, .ref aX8_queue, .int (i32 m_divided), .ref aX8_divisors, .ref aX8_least, .long (i64 m_pairOne), .long (i64 m_pairTwo), .long (i64 m_sumUp), .long (i64 m_sumDown)])), (aX8_row, aL X.cJ 17 m_row)] := by
  intro n
  induction n with
  | zero => intro m_many m_row m_isSpent l5 r_m_many r_m_row r_m_isSpent r_l5 h; exact False.elim h
  | succ n ih =>
    intro m_many m_row m_isSpent l5 r_m_many r_m_row r_m_isSpent r_l5 h
    rw [wp_X8_cutUp_66] at h
    refine q_iload g 5 1 rfl dX8_cutUp_66 ?_
    refine q_if_lt g (91) 159 r_l5 (by decide) dX8_cutUp_68 (fun b68 => ?_) (fun b68 => ?_)
    · replace h := h.1 b68
      refine q_lv (lv' := []) [] rfl ?_
      exact s_X8_cutUp_159 g hR hX8 aX8_ups aX8_downs aX8_row m_found aX8_sumMany aX8_sumShares aX8_sumSet aX8_taken aX8_restUp aX8_restDown m_fewest m_wishes aX8_wished aX8_far aX8_queue m_divided aX8_divisors aX8_least m_pairOne m_pairTwo m_sumUp m_sumDown Q hF m_many m_row m_isSpent r_m_many r_m_row r_m_isSpent h
    replace h := h.2 b68
    refine q_aload_n g 0 0 rfl dX8_cutUp_71 ?_
    refine q_get (C := RX8) (T := TX8) (N := 24) g 80 inX8 0 4 rfl rfl (by decide) wF_X8_80 rfl dX8_cutUp_72 ?_
    refine q_if_ne g (84) 159 r_m_isSpent (by decide) dX8_cutUp_75 (fun b75 => ?_) (fun b75 => ?_)
    · replace h := h.1 b75
      refine q_lv (lv' := []) [] rfl ?_
      exact s_X8_cutUp_159 g hR hX8 aX8_ups aX8_downs aX8_row m_found aX8_sumMany aX8_sumShares aX8_sumSet aX8_taken aX8_restUp aX8_restDown m_fewest m_wishes aX8_wished aX8_far aX8_queue m_divided aX8_divisors aX8_least m_pairOne m_pairTwo m_sumUp m_sumDown Q hF m_many m_row m_isSpent r_m_many r_m_row r_m_isSpent h
    replace h := h.2 b75
    refine q_aload_n g 0 0 rfl dX8_cutUp_78 ?_
    refine q_get (C := RX8) (T := TX8) (N := 24) g 16 inX8 0 3 rfl rfl (by decide) wF_X8_16 rfl dX8_cutUp_79 ?_
    refine q_iload g 5 1 rfl dX8_cutUp_82 ?_
    obtain ⟨c84, h⟩ := h
    obtain ⟨e84, h⟩ := h
    refine q_lald g 1 rfl c84 e84 (by decide) dX8_cutUp_84 ?_
    refine q_topl (r_m_row _) (fun x85 ex85 rx85 => ?_)
    replace h := h x85 ex85
    refine q_lstore (lv' := [(6, .long (i64 x85)), (0, .ref hX8), (5, .int (i32 l5))]) g 6   (by decide) rfl dX8_cutUp_85 ?_
    refine q_aload_n g 0 1 rfl dX8_cutUp_87 ?_
    refine q_get (C := RX8) (T := TX8) (N := 24) g 16 inX8 0 3 rfl rfl (by decide) wF_X8_16 rfl dX8_cutUp_88 ?_
    refine q_iload g 5 2 rfl dX8_cutUp_91 ?_
    refine q_lload g 6 0 rfl dX8_cutUp_93 ?_
    refine q_lconst g 1 1 rfl dX8_cutUp_95 ?_
    obtain ⟨c96, h⟩ := h
    refine q_ladd g dX8_cutUp_96 ?_
    refine q_topl c96 (fun x97 ex97 rx97 => ?_)
    replace h := h x97 ex97
    obtain ⟨c97, h⟩ := h
    obtain ⟨e97, h⟩ := h
    refine q_last (ws' := [(hX8, .inr (7, [.ref aX8_ups, .ref aX8_downs, .int (i32 m_many), .ref aX8_row, .int (i32 m_isSpent), .int (i32 m_found), .ref aX8_sumMany, .ref aX8_sumShares, .ref aX8_sumSet, .ref aX8_taken, .ref aX8_restUp, .ref aX8_restDown, .int (i32 m_fewest), .int (i32 m_wishes), .ref aX8_wished, .ref aX8_far, .ref aX8_queue, .int (i32 m_divided), .ref aX8_divisors, .ref aX8_least, .long (i64 m_pairOne), .long (i64 m_pairTwo), .long (i64 m_sumUp), .long (i64 m_sumDown)])), (aX8_row, aL X.cJ 17 (ups m_row l5 x97))]) g 1 rfl c97 e97 (by decide) rfl dX8_cutUp_97 ?_
    refine q_aload_n g 0 1 rfl dX8_cutUp_98 ?_
    refine q_lload g 6 0 rfl dX8_cutUp_99 ?_
    refine q_lconst g 1 1 rfl dX8_cutUp_101 ?_
    obtain ⟨c102, h⟩ := h
    refine q_ladd g dX8_cutUp_102 ?_
    refine q_ldc2 (w := 1000000000000) g 87 (1000000000000) (by decide +kernel) wL_X8_87 dX8_cutUp_103 ?_
    refine q_lcmp_gt g (17) 124 c102 (r64_lit _ (by decide)) (by decide) dX8_cutUp_106 dX8_cutUp_107 (fun b106 => ?_) (fun b106 => ?_)
    · replace h := h.1 b106
      refine q_lv (lv' := [(0, .ref hX8), (5, .int (i32 l5)), (6, .long (i64 x85))]) [1, 2, 0] rfl ?_
      exact s_X8_cutUp_124 g hR hX8 aX8_ups aX8_downs aX8_row m_found aX8_sumMany aX8_sumShares aX8_sumSet aX8_taken aX8_restUp aX8_restDown m_fewest m_wishes aX8_wished aX8_far aX8_queue m_divided aX8_divisors aX8_least m_pairOne m_pairTwo m_sumUp m_sumDown Q hF (wp_X8_cutUp_66 Q n) (fun v0 v1 v2 v3 w0 w1 w2 w3 hh => ih v0 v1 v2 v3 w0 w1 w2 w3 hh) m_many (ups m_row l5 x97) m_isSpent l5 x85 r_m_many (rr64_u r_m_row rx97) r_m_isSpent r_l5 rx85 h
    replace h := h.2 b106
    refine q_lload g 6 0 rfl dX8_cutUp_110 ?_
    refine q_ldc2 (w := 1000000000000) g 87 (1000000000000) (by decide +kernel) wL_X8_87 dX8_cutUp_112 ?_
    refine q_lload g 6 0 rfl dX8_cutUp_115 ?_
    refine q_lconst g 1 1 rfl dX8_cutUp_117 ?_
    obtain ⟨c118, h⟩ := h
    refine q_ladd g dX8_cutUp_118 ?_
    obtain ⟨c119, h⟩ := h
    refine q_ldiv g (r64_lit _ (by decide)) c118 (ne_of_pos c119) dX8_cutUp_119 ?_
    refine q_lcmp_le g (7) 128 rx85 (r64_tdiv (r64_lit _ (by decide)) c119) (by decide) dX8_cutUp_120 dX8_cutUp_121 (fun b120 => ?_) (fun b120 => ?_)
    · replace h := h.1 b120
      refine q_iconst g (0) dX8_cutUp_128 ?_
      refine q_lv (lv' := [(0, .ref hX8), (5, .int (i32 l5)), (6, .long (i64 x85))]) [1, 2, 0] rfl ?_
      exact s_X8_cutUp_129 g hR hX8 aX8_ups aX8_downs aX8_row m_found aX8_sumMany aX8_sumShares aX8_sumSet aX8_taken aX8_restUp aX8_restDown m_fewest m_wishes aX8_wished aX8_far aX8_queue m_divided aX8_divisors aX8_least m_pairOne m_pairTwo m_sumUp m_sumDown Q hF (wp_X8_cutUp_66 Q n) (fun v0 v1 v2 v3 w0 w1 w2 w3 hh => ih v0 v1 v2 v3 w0 w1 w2 w3 hh) m_many (ups m_row l5 x97) m_isSpent l5 x85 0 r_m_many (rr64_u r_m_row rx97) r_m_isSpent r_l5 rx85 (r32_lit _ (by decide)) h
    replace h := h.2 b120
    refine q_lv (lv' := [(0, .ref hX8), (5, .int (i32 l5)), (6, .long (i64 x85))]) [1, 2, 0] rfl ?_
    exact s_X8_cutUp_124 g hR hX8 aX8_ups aX8_downs aX8_row m_found aX8_sumMany aX8_sumShares aX8_sumSet aX8_taken aX8_restUp aX8_restDown m_fewest m_wishes aX8_wished aX8_far aX8_queue m_divided aX8_divisors aX8_least m_pairOne m_pairTwo m_sumUp m_sumDown Q hF (wp_X8_cutUp_66 Q n) (fun v0 v1 v2 v3 w0 w1 w2 w3 hh => ih v0 v1 v2 v3 w0 w1 w2 w3 hh) m_many (ups m_row l5 x97) m_isSpent l5 x85 r_m_many (rr64_u r_m_row rx97) r_m_isSpent r_l5 rx85 h
def wp_X8_cutUp_64 (Q : Int → (Int → Int) → Int → Prop) (m_many : Int) (m_row : Int → Int) (m_isSpent : Int) (k0 : Int) : Prop := (∃ n0 : Nat, wp_X8_cutUp_66 Q n0 m_many m_row m_isSpent k0)
set_option maxHeartbeats 4000000 in
set_option maxRecDepth 100000 in
theorem s_X8_cutUp_64 {X : Cx} (g : Gd X cX8_cutUp RX8 none 8) (hR : X.R = rmL 2 0 0) (hX8 : Nat) (aX8_ups : Nat) (aX8_downs : Nat) (aX8_row : Nat) (m_found : Int) (aX8_sumMany : Nat) (aX8_sumShares : Nat) (aX8_sumSet : Nat) (aX8_taken : Nat) (aX8_restUp : Nat) (aX8_restDown : Nat) (m_fewest : Int) (m_wishes : Int) (aX8_wished : Nat) (aX8_far : Nat) (aX8_queue : Nat) (m_divided : Int) (aX8_divisors : Nat) (aX8_least : Nat) (m_pairOne : Int) (m_pairTwo : Int) (m_sumUp : Int) (m_sumDown : Int) (Q : Int → (Int → Int) → Int → Prop) (hF : FQ X 0 0 (po_X8_cutUp X.cI X.cJ hX8 aX8_ups aX8_downs aX8_row m_found aX8_sumMany aX8_sumShares aX8_sumSet aX8_taken aX8_restUp aX8_restDown m_fewest m_wishes aX8_wished aX8_far aX8_queue m_divided aX8_divisors aX8_least m_pairOne m_pairTwo m_sumUp m_sumDown Q)) : ∀ (m_many : Int) (m_row : Int → Int) (m_isSpent : Int) (k0 : Int), r32 m_many → rr64 m_row → r32 m_isSpent → r32 k0 → wp_X8_cutUp_64 Q m_many m_row m_isSpent k0 → Wat X 0 0 64 [(0, .ref hX8)] [.int (i32 k0)] [(hX8, .inr (7, [.ref aX8_ups, .ref aX8_downs, .int (i32 m_many), .ref aX8_row, .int (i32 m_isSpent), .int (i32 m_found), .ref aX8_sumMany, .ref aX8_sumShares, .ref aX8_sumSet, .ref aX8_taken, .ref aX8_restUp, .ref aX8_restDown, .int (i32 m_fewest), .int (i32 m_wishes), .ref aX8_wished, .ref aX8_far, .ref aX8_queue, .int (i32 m_divided), .ref aX8_divisors, .ref aX8_least, .long (i64 m_pairOne), .long (i64 m_pairTwo), .long (i64 m_sumUp), .long (i64 m_sumDown)])), (aX8_row, aL X.cJ 17 m_row)] := by
  intro m_many m_row m_isSpent k0 r_m_many r_m_row r_m_isSpent r_k0 h
  rw [wp_X8_cutUp_64] at h
  refine q_istore (lv' := [(5, .int (i32 k0)), (0, .ref hX8)]) g 5   (by decide) rfl dX8_cutUp_64 ?_
  refine q_lv (lv' := [(0, .ref hX8), (5, .int (i32 k0))]) [1, 0] rfl ?_
  obtain ⟨n0, h⟩ := h
  exact s_X8_cutUp_66 g hR hX8 aX8_ups aX8_downs aX8_row m_found aX8_sumMany aX8_sumShares aX8_sumSet aX8_taken aX8_restUp aX8_restDown m_fewest m_wishes aX8_wished aX8_far aX8_queue m_divided aX8_divisors aX8_least m_pairOne m_pairTwo m_sumUp m_sumDown Q hF n0 m_many m_row m_isSpent k0 r_m_many r_m_row r_m_isSpent r_k0 h
def wp_X8_cutUp_48 (Q : Int → (Int → Int) → Int → Prop) (m_many : Int) (m_row : Int → Int) (m_isSpent : Int) : Prop := ((m_isSpent = 0 → wp_X8_twice (fun (x61 : Int) => wp_X8_cutUp_64 Q m_many m_row m_isSpent x61) m_many m_row) ∧
  (¬ (m_isSpent = 0) → wp_X8_cutUp_64 Q m_many m_row m_isSpent (-4)))
set_option maxHeartbeats 4000000 in
set_option maxRecDepth 100000 in
theorem s_X8_cutUp_48 {X : Cx} (g : Gd X cX8_cutUp RX8 none 8) (hR : X.R = rmL 2 0 0) (hX8 : Nat) (aX8_ups : Nat) (aX8_downs : Nat) (aX8_row : Nat) (m_found : Int) (aX8_sumMany : Nat) (aX8_sumShares : Nat) (aX8_sumSet : Nat) (aX8_taken : Nat) (aX8_restUp : Nat) (aX8_restDown : Nat) (m_fewest : Int) (m_wishes : Int) (aX8_wished : Nat) (aX8_far : Nat) (aX8_queue : Nat) (m_divided : Int) (aX8_divisors : Nat) (aX8_least : Nat) (m_pairOne : Int) (m_pairTwo : Int) (m_sumUp : Int) (m_sumDown : Int) (Q : Int → (Int → Int) → Int → Prop) (hF : FQ X 0 0 (po_X8_cutUp X.cI X.cJ hX8 aX8_ups aX8_downs aX8_row m_found aX8_sumMany aX8_sumShares aX8_sumSet aX8_taken aX8_restUp aX8_restDown m_fewest m_wishes aX8_wished aX8_far aX8_queue m_divided aX8_divisors aX8_least m_pairOne m_pairTwo m_sumUp m_sumDown Q)) : ∀ (m_many : Int) (m_row : Int → Int) (m_isSpent : Int), r32 m_many → rr64 m_row → r32 m_isSpent → wp_X8_cutUp_48 Q m_many m_row m_isSpent → Wat X 0 0 48 [(0, .ref hX8)] [] [(hX8, .inr (7, [.ref aX8_ups, .ref aX8_downs, .int (i32 m_many), .ref aX8_row, .int (i32 m_isSpent), .int (i32 m_found), .ref aX8_sumMany, .ref aX8_sumShares, .ref aX8_sumSet, .ref aX8_taken, .ref aX8_restUp, .ref aX8_restDown, .int (i32 m_fewest), .int (i32 m_wishes), .ref aX8_wished, .ref aX8_far, .ref aX8_queue, .int (i32 m_divided), .ref aX8_divisors, .ref aX8_least, .long (i64 m_pairOne), .long (i64 m_pairTwo), .long (i64 m_sumUp), .long (i64 m_sumDown)])), (aX8_row, aL X.cJ 17 m_row)] := by
  intro m_many m_row m_isSpent r_m_many r_m_row r_m_isSpent h
  rw [wp_X8_cutUp_48] at h
  refine q_aload_n g 0 0 rfl dX8_cutUp_48 ?_
  refine q_get (C := RX8) (T := TX8) (N := 24) g 80 inX8 0 4 rfl rfl (by decide) wF_X8_80 rfl dX8_cutUp_49 ?_
  refine q_if_eq g (8) 60 r_m_isSpent (by decide) dX8_cutUp_52 (fun b52 => ?_) (fun b52 => ?_)
  · replace h := h.1 b52
    refine q_aload_n g 0 0 rfl dX8_cutUp_60 ?_
    refine q_callV (lev := 1) (mc := 0) (ms := 0) g 103 (c_X8_twice X.l X.D X.cI X.cJ X.zt hX8 aX8_ups aX8_downs m_many aX8_row m_isSpent m_found aX8_sumMany aX8_sumShares aX8_sumSet aX8_taken aX8_restUp aX8_restDown m_fewest m_wishes aX8_wished aX8_far aX8_queue m_divided aX8_divisors aX8_least m_pairOne m_pairTwo m_sumUp m_sumDown m_row _ r_m_many r_m_row h) (wr := []) [0, 1] [] rfl rfl rfl (by decide) (by decide) (by decide) (ci := 7) rfl rfl rfl wM_X8_103 wI_X8_twice wS_X8_twice wZ_X8 wC_X8_twice 0 rfl (by decide +kernel) (by rw [hR]; exact ⟨by show 1 + 1 ≤ 2; omega, by show 8 + (5 + 11) + 100 * 1 ≤ 100 * 2; omega⟩) (by rw [hR]; exact ⟨Nat.le_refl _, Nat.le_refl _⟩) (Nat.le_of_ble_eq_true rfl) rfl dX8_cutUp_61 (fun rv w1 hq => ?_)
    obtain ⟨x61, rfl, rfl, rx61, h⟩ := hq
    show Wat X 0 0 64 [(0, .ref hX8)] [.int (i32 x61)] [(hX8, .inr (7, [.ref aX8_ups, .ref aX8_downs, .int (i32 m_many), .ref aX8_row, .int (i32 m_isSpent), .int (i32 m_found), .ref aX8_sumMany, .ref aX8_sumShares, .ref aX8_sumSet, .ref aX8_taken, .ref aX8_restUp, .ref aX8_restDown, .int (i32 m_fewest), .int (i32 m_wishes), .ref aX8_wished, .ref aX8_far, .ref aX8_queue, .int (i32 m_divided), .ref aX8_divisors, .ref aX8_least, .long (i64 m_pairOne), .long (i64 m_pairTwo), .long (i64 m_sumUp), .long (i64 m_sumDown)])), (aX8_row, aL X.cJ 17 m_row)]
    exact s_X8_cutUp_64 g hR hX8 aX8_ups aX8_downs aX8_row m_found aX8_sumMany aX8_sumShares aX8_sumSet aX8_taken aX8_restUp aX8_restDown m_fewest m_wishes aX8_wished aX8_far aX8_queue m_divided aX8_divisors aX8_least m_pairOne m_pairTwo m_sumUp m_sumDown Q hF m_many m_row m_isSpent x61 r_m_many r_m_row r_m_isSpent rx61 h
  replace h := h.2 b52
  refine q_bipush g (-4) (by decide) (by decide) dX8_cutUp_55 ?_
  refine q_goto g (7) 64 (by decide) dX8_cutUp_57 ?_
  exact s_X8_cutUp_64 g hR hX8 aX8_ups aX8_downs aX8_row m_found aX8_sumMany aX8_sumShares aX8_sumSet aX8_taken aX8_restUp aX8_restDown m_fewest m_wishes aX8_wished aX8_far aX8_queue m_divided aX8_divisors aX8_least m_pairOne m_pairTwo m_sumUp m_sumDown Q hF m_many m_row m_isSpent (-4) r_m_many r_m_row r_m_isSpent (r32_lit _ (by decide)) h
def wp_X8_cutUp_20 (Q : Int → (Int → Int) → Int → Prop) : Nat → Int → (Int → Int) → Int → Int → Int → Int → Prop
  | 0, _, _, _, _, _, _ => False
  | n + 1, m_many, m_row, m_isSpent, l1, l3, l5 => ((l1 ≤ l5 → wp_X8_cutUp_48 Q m_many m_row m_isSpent) ∧
  (¬ (l1 ≤ l5) → ((¬ m_isSpent = 0 → wp_X8_cutUp_48 Q m_many m_row m_isSpent) ∧
  (m_isSpent = 0 → wp_X8_put (fun (m_many_36 : Int) (m_row_36 : Int → Int) (m_isSpent_36 : Int) => (r64 (l5 + 1) ∧ ∀ x43 : Int, x43 = (l5 + 1) → wp_X8_cutUp_20 Q n m_many_36 m_row_36 m_isSpent_36 l1 l3 x43)) m_many m_row m_isSpent l3))))
set_option maxHeartbeats 4000000 in
set_option maxRecDepth 100000 in
theorem s_X8_cutUp_20 {X : Cx} (g : Gd X cX8_cutUp RX8 none 8) (hR : X.R = rmL 2 0 0) (hX8 : Nat) (aX8_ups : Nat) (aX8_downs : Nat) (aX8_row : Nat) (m_found : Int) (aX8_sumMany : Nat) (aX8_sumShares : Nat) (aX8_sumSet : Nat) (aX8_taken : Nat) (aX8_restUp : Nat) (aX8_restDown : Nat) (m_fewest : Int) (m_wishes : Int) (aX8_wished : Nat) (aX8_far : Nat) (aX8_queue : Nat) (m_divided : Int) (aX8_divisors : Nat) (aX8_least : Nat) (m_pairOne : Int) (m_pairTwo : Int) (m_sumUp : Int) (m_sumDown : Int) (Q : Int → (Int → Int) → Int → Prop) (hF : FQ X 0 0 (po_X8_cutUp X.cI X.cJ hX8 aX8_ups aX8_downs aX8_row m_found aX8_sumMany aX8_sumShares aX8_sumSet aX8_taken aX8_restUp aX8_restDown m_fewest m_wishes aX8_wished aX8_far aX8_queue m_divided aX8_divisors aX8_least m_pairOne m_pairTwo m_sumUp m_sumDown Q)) : ∀ (n : Nat) (m_many : Int) (m_row : Int → Int) (m_isSpent : Int) (l1 : Int) (l3 : Int) (l5 : Int), r32 m_many → rr64 m_row → r32 m_isSpent → r64 l1 → r64 l3 → r64 l5 → wp_X8_cutUp_20 Q n m_many m_row m_isSpent l1 l3 l5 → Wat X 0 0 20 [(0, .ref hX8), (1, .long (i64 l1)), (3, .long (i64 l3)), (5, .long (i64 l5))] [] [(hX8, .inr (7, [.ref aX8_ups, .ref aX8_downs, .int (i32 m_many), .ref aX8_row, .int (i32 m_isSpent), .int (i32 m_found), .ref aX8_sumMany, .ref aX8_sumShares, .ref aX8_sumSet, .ref aX8_taken, .ref aX8_restUp, .ref aX8_restDown, .int (i32 m_fewest), .int (i32 m_wishes), .ref aX8_wished, .ref aX8_far, .ref aX8_queue, .int (i32 m_divided), .ref aX8_divisors, .ref aX8_least, .long (i64 m_pairOne), .long (i64 m_pairTwo), .long (i64 m_sumUp), .long (i64 m_sumDown)])), (aX8_row, aL X.cJ 17 m_row)] := by
  intro n
  induction n with
  | zero => intro m_many m_row m_isSpent l1 l3 l5 r_m_many r_m_row r_m_isSpent r_l1 r_l3 r_l5 h; exact False.elim h
  | succ n ih =>
    intro m_many m_row m_isSpent l1 l3 l5 r_m_many r_m_row r_m_isSpent r_l1 r_l3 r_l5 h
    rw [wp_X8_cutUp_20] at h
    refine q_lload g 5 3 rfl dX8_cutUp_20 ?_
    refine q_lload_n g 1 1 rfl dX8_cutUp_22 ?_
    refine q_lcmp_ge g (24) 48 r_l5 r_l1 (by decide) dX8_cutUp_23 dX8_cutUp_24 (fun b23 => ?_) (fun b23 => ?_)
    · replace h := h.1 b23
      refine q_lv (lv' := [(0, .ref hX8)]) [0] rfl ?_
      exact s_X8_cutUp_48 g hR hX8 aX8_ups aX8_downs aX8_row m_found aX8_sumMany aX8_sumShares aX8_sumSet aX8_taken aX8_restUp aX8_restDown m_fewest m_wishes aX8_wished aX8_far aX8_queue m_divided aX8_divisors aX8_least m_pairOne m_pairTwo m_sumUp m_sumDown Q hF m_many m_row m_isSpent r_m_many r_m_row r_m_isSpent h
    replace h := h.2 b23
    refine q_aload_n g 0 0 rfl dX8_cutUp_27 ?_
    refine q_get (C := RX8) (T := TX8) (N := 24) g 80 inX8 0 4 rfl rfl (by decide) wF_X8_80 rfl dX8_cutUp_28 ?_
    refine q_if_ne g (17) 48 r_m_isSpent (by decide) dX8_cutUp_31 (fun b31 => ?_) (fun b31 => ?_)
    · replace h := h.1 b31
      refine q_lv (lv' := [(0, .ref hX8)]) [0] rfl ?_
      exact s_X8_cutUp_48 g hR hX8 aX8_ups aX8_downs aX8_row m_found aX8_sumMany aX8_sumShares aX8_sumSet aX8_taken aX8_restUp aX8_restDown m_fewest m_wishes aX8_wished aX8_far aX8_queue m_divided aX8_divisors aX8_least m_pairOne m_pairTwo m_sumUp m_sumDown Q hF m_many m_row m_isSpent r_m_many r_m_row r_m_isSpent h
    replace h := h.2 b31
    refine q_aload_n g 0 0 rfl dX8_cutUp_34 ?_
    refine q_lload_n g 3 2 rfl dX8_cutUp_35 ?_
    refine q_callV (lev := 1) (mc := 0) (ms := 0) g 95 (c_X8_put X.l X.D X.cI X.cJ X.zt hX8 aX8_ups aX8_downs m_many aX8_row m_isSpent m_found aX8_sumMany aX8_sumShares aX8_sumSet aX8_taken aX8_restUp aX8_restDown m_fewest m_wishes aX8_wished aX8_far aX8_queue m_divided aX8_divisors aX8_least m_pairOne m_pairTwo m_sumUp m_sumDown m_row l3 _ r_m_many r_m_row r_m_isSpent r_l3 h) (wr := []) [0, 1] [] rfl rfl rfl (by decide) (by decide) (by decide) (ci := 7) rfl rfl rfl wM_X8_95 wI_X8_put wS_X8_put wZ_X8 wC_X8_put 1 rfl (by decide +kernel) (by rw [hR]; exact ⟨by show 1 + 1 ≤ 2; omega, by show 8 + (3 + 11) + 100 * 1 ≤ 100 * 2; omega⟩) (by rw [hR]; exact ⟨Nat.le_refl _, Nat.le_refl _⟩) (Nat.le_of_ble_eq_true rfl) rfl dX8_cutUp_36 (fun rv w1 hq => ?_)
    obtain ⟨m_many_36, m_row_36, m_isSpent_36, rfl, rfl, rm_many_36, rm_row_36, rm_isSpent_36, h⟩ := hq
    show Wat X 0 0 39 [(0, .ref hX8), (1, .long (i64 l1)), (3, .long (i64 l3)), (5, .long (i64 l5))] [] [(hX8, .inr (7, [.ref aX8_ups, .ref aX8_downs, .int (i32 m_many_36), .ref aX8_row, .int (i32 m_isSpent_36), .int (i32 m_found), .ref aX8_sumMany, .ref aX8_sumShares, .ref aX8_sumSet, .ref aX8_taken, .ref aX8_restUp, .ref aX8_restDown, .int (i32 m_fewest), .int (i32 m_wishes), .ref aX8_wished, .ref aX8_far, .ref aX8_queue, .int (i32 m_divided), .ref aX8_divisors, .ref aX8_least, .long (i64 m_pairOne), .long (i64 m_pairTwo), .long (i64 m_sumUp), .long (i64 m_sumDown)])), (aX8_row, aL X.cJ 17 m_row_36)]
    refine q_lload g 5 3 rfl dX8_cutUp_39 ?_
    refine q_lconst g 1 1 rfl dX8_cutUp_41 ?_
    obtain ⟨c42, h⟩ := h
    refine q_ladd g dX8_cutUp_42 ?_
    refine q_topl c42 (fun x43 ex43 rx43 => ?_)
    replace h := h x43 ex43
    refine q_lstore (lv' := [(5, .long (i64 x43)), (0, .ref hX8), (1, .long (i64 l1)), (3, .long (i64 l3))]) g 5   (by decide) rfl dX8_cutUp_43 ?_
    refine q_goto g (-25) 20 (by decide) dX8_cutUp_45 ?_
    refine q_lv (lv' := [(0, .ref hX8), (1, .long (i64 l1)), (3, .long (i64 l3)), (5, .long (i64 x43))]) [1, 2, 3, 0] rfl ?_
    exact ih m_many_36 m_row_36 m_isSpent_36 l1 l3 x43 rm_many_36 rm_row_36 rm_isSpent_36 r_l1 r_l3 rx43 h
def wp_X8_cutUp_14 (Q : Int → (Int → Int) → Int → Prop) (m_many : Int) (m_row : Int → Int) (m_isSpent : Int) (l1 : Int) (l3 : Int) (k1 : Int) : Prop := ((k1 = 0 ∨ k1 = 1) ∧ (∃ n0 : Nat, wp_X8_cutUp_20 Q n0 m_many m_row k1 l1 l3 0))
set_option maxHeartbeats 4000000 in
set_option maxRecDepth 100000 in
theorem s_X8_cutUp_14 {X : Cx} (g : Gd X cX8_cutUp RX8 none 8) (hR : X.R = rmL 2 0 0) (hX8 : Nat) (aX8_ups : Nat) (aX8_downs : Nat) (aX8_row : Nat) (m_found : Int) (aX8_sumMany : Nat) (aX8_sumShares : Nat) (aX8_sumSet : Nat) (aX8_taken : Nat) (aX8_restUp : Nat) (aX8_restDown : Nat) (m_fewest : Int) (m_wishes : Int) (aX8_wished : Nat) (aX8_far : Nat) (aX8_queue : Nat) (m_divided : Int) (aX8_divisors : Nat) (aX8_least : Nat) (m_pairOne : Int) (m_pairTwo : Int) (m_sumUp : Int) (m_sumDown : Int) (Q : Int → (Int → Int) → Int → Prop) (hF : FQ X 0 0 (po_X8_cutUp X.cI X.cJ hX8 aX8_ups aX8_downs aX8_row m_found aX8_sumMany aX8_sumShares aX8_sumSet aX8_taken aX8_restUp aX8_restDown m_fewest m_wishes aX8_wished aX8_far aX8_queue m_divided aX8_divisors aX8_least m_pairOne m_pairTwo m_sumUp m_sumDown Q)) : ∀ (m_many : Int) (m_row : Int → Int) (m_isSpent : Int) (l1 : Int) (l3 : Int) (k1 : Int), r32 m_many → rr64 m_row → r32 m_isSpent → r64 l1 → r64 l3 → r32 k1 → wp_X8_cutUp_14 Q m_many m_row m_isSpent l1 l3 k1 → Wat X 0 0 14 [(0, .ref hX8), (1, .long (i64 l1)), (3, .long (i64 l3))] [.int (i32 k1), .ref hX8] [(hX8, .inr (7, [.ref aX8_ups, .ref aX8_downs, .int (i32 m_many), .ref aX8_row, .int (i32 m_isSpent), .int (i32 m_found), .ref aX8_sumMany, .ref aX8_sumShares, .ref aX8_sumSet, .ref aX8_taken, .ref aX8_restUp, .ref aX8_restDown, .int (i32 m_fewest), .int (i32 m_wishes), .ref aX8_wished, .ref aX8_far, .ref aX8_queue, .int (i32 m_divided), .ref aX8_divisors, .ref aX8_least, .long (i64 m_pairOne), .long (i64 m_pairTwo), .long (i64 m_sumUp), .long (i64 m_sumDown)])), (aX8_row, aL X.cJ 17 m_row)] := by
  intro m_many m_row m_isSpent l1 l3 k1 r_m_many r_m_row r_m_isSpent r_l1 r_l3 r_k1 h
  rw [wp_X8_cutUp_14] at h
  obtain ⟨z14, h⟩ := h
  refine q_put (C := RX8) (T := TX8) (N := 24) (ty := .boolean) (ws' := [(hX8, .inr (7, [.ref aX8_ups, .ref aX8_downs, .int (i32 m_many), .ref aX8_row, .int (i32 k1), .int (i32 m_found), .ref aX8_sumMany, .ref aX8_sumShares, .ref aX8_sumSet, .ref aX8_taken, .ref aX8_restUp, .ref aX8_restDown, .int (i32 m_fewest), .int (i32 m_wishes), .ref aX8_wished, .ref aX8_far, .ref aX8_queue, .int (i32 m_divided), .ref aX8_divisors, .ref aX8_least, .long (i64 m_pairOne), .long (i64 m_pairTwo), .long (i64 m_sumUp), .long (i64 m_sumDown)])), (aX8_row, aL X.cJ 17 m_row)]) g 80 inX8 tyX8_ok nmX8 0 4 rfl rfl (by decide) wF_X8_80 rfl rfl (zb_n z14) (zb_f z14) (Nat.le_of_ble_eq_true rfl) rfl dX8_cutUp_14 ?_
  refine q_lconst g 0 0 rfl dX8_cutUp_17 ?_
  refine q_lstore (lv' := [(5, .long (i64 0)), (0, .ref hX8), (1, .long (i64 l1)), (3, .long (i64 l3))]) g 5   (by decide) rfl dX8_cutUp_18 ?_
  refine q_lv (lv' := [(0, .ref hX8), (1, .long (i64 l1)), (3, .long (i64 l3)), (5, .long (i64 0))]) [1, 2, 3, 0] rfl ?_
  obtain ⟨n0, h⟩ := h
  exact s_X8_cutUp_20 g hR hX8 aX8_ups aX8_downs aX8_row m_found aX8_sumMany aX8_sumShares aX8_sumSet aX8_taken aX8_restUp aX8_restDown m_fewest m_wishes aX8_wished aX8_far aX8_queue m_divided aX8_divisors aX8_least m_pairOne m_pairTwo m_sumUp m_sumDown Q hF n0 m_many m_row k1 l1 l3 0 r_m_many r_m_row r_k1 r_l1 r_l3 (r64_lit _ (by decide)) h
def wp_X8_cutUp (Q : Int → (Int → Int) → Int → Prop) (m_many : Int) (m_row : Int → Int) (m_isSpent : Int) (l1 : Int) (l3 : Int) : Prop := ((l1 ≤ 16 → wp_X8_cutUp_14 Q m_many m_row m_isSpent l1 l3 0) ∧
  (¬ (l1 ≤ 16) → wp_X8_cutUp_14 Q m_many m_row m_isSpent l1 l3 1))
set_option maxHeartbeats 4000000 in
set_option maxRecDepth 100000 in
theorem c_X8_cutUp (l : Launch) (D : va_G) (cI cJ : ClassId) (zt : Nat) (hX8 : Nat) (aX8_ups : Nat) (aX8_downs : Nat) (m_many : Int) (aX8_row : Nat) (m_isSpent : Int) (m_found : Int) (aX8_sumMany : Nat) (aX8_sumShares : Nat) (aX8_sumSet : Nat) (aX8_taken : Nat) (aX8_restUp : Nat) (aX8_restDown : Nat) (m_fewest : Int) (m_wishes : Int) (aX8_wished : Nat) (aX8_far : Nat) (aX8_queue : Nat) (m_divided : Int) (aX8_divisors : Nat) (aX8_least : Nat) (m_pairOne : Int) (m_pairTwo : Int) (m_sumUp : Int) (m_sumDown : Int) (m_row : Int → Int) (l1 : Int) (l3 : Int) (Q : Int → (Int → Int) → Int → Prop) (r_m_many : r32 m_many) (r_m_row : rr64 m_row) (r_m_isSpent : r32 m_isSpent) (r_l1 : r64 l1) (r_l3 : r64 l3) (h : wp_X8_cutUp Q m_many m_row m_isSpent l1 l3) : Ct l D cI cJ zt yX8_cutUp cX8_cutUp 8 none 2 0 0 [.ref hX8, .long (i64 l1), .long (i64 l3)] [(hX8, .inr (7, [.ref aX8_ups, .ref aX8_downs, .int (i32 m_many), .ref aX8_row, .int (i32 m_isSpent), .int (i32 m_found), .ref aX8_sumMany, .ref aX8_sumShares, .ref aX8_sumSet, .ref aX8_taken, .ref aX8_restUp, .ref aX8_restDown, .int (i32 m_fewest), .int (i32 m_wishes), .ref aX8_wished, .ref aX8_far, .ref aX8_queue, .int (i32 m_divided), .ref aX8_divisors, .ref aX8_least, .long (i64 m_pairOne), .long (i64 m_pairTwo), .long (i64 m_sumUp), .long (i64 m_sumDown)])), (aX8_row, aL cJ 17 m_row)] (po_X8_cutUp cI cJ hX8 aX8_ups aX8_downs aX8_row m_found aX8_sumMany aX8_sumShares aX8_sumSet aX8_taken aX8_restUp aX8_restDown m_fewest m_wishes aX8_wished aX8_far aX8_queue m_divided aX8_divisors aX8_least m_pairOne m_pairTwo m_sumUp m_sumDown Q) := by
  refine ct_of (by decide +kernel) (Nat.le_of_ble_eq_true rfl) (fun X hl hDD hcI hcJ hzt hR hF hnm g => ?_)
  subst hl; subst hDD; subst hcI; subst hcJ; subst hzt
  show Wat X 0 0 0 [(0, .ref hX8), (1, .long (i64 l1)), (3, .long (i64 l3))] [] [(hX8, .inr (7, [.ref aX8_ups, .ref aX8_downs, .int (i32 m_many), .ref aX8_row, .int (i32 m_isSpent), .int (i32 m_found), .ref aX8_sumMany, .ref aX8_sumShares, .ref aX8_sumSet, .ref aX8_taken, .ref aX8_restUp, .ref aX8_restDown, .int (i32 m_fewest), .int (i32 m_wishes), .ref aX8_wished, .ref aX8_far, .ref aX8_queue, .int (i32 m_divided), .ref aX8_divisors, .ref aX8_least, .long (i64 m_pairOne), .long (i64 m_pairTwo), .long (i64 m_sumUp), .long (i64 m_sumDown)])), (aX8_row, aL X.cJ 17 m_row)]
  replace g : Gd X cX8_cutUp RX8 none 8 := g
  rw [wp_X8_cutUp] at h
  refine q_aload_n g 0 0 rfl dX8_cutUp_0 ?_
  refine q_lload_n g 1 1 rfl dX8_cutUp_1 ?_
  refine q_ldc2 (w := 16) g 101 (16) (by decide +kernel) wL_X8_101 dX8_cutUp_2 ?_
  refine q_lcmp_le g (7) 13 r_l1 (r64_lit _ (by decide)) (by decide) dX8_cutUp_5 dX8_cutUp_6 (fun b5 => ?_) (fun b5 => ?_)
  · replace h := h.1 b5
    refine q_iconst g (0) dX8_cutUp_13 ?_
    exact s_X8_cutUp_14 g hR hX8 aX8_ups aX8_downs aX8_row m_found aX8_sumMany aX8_sumShares aX8_sumSet aX8_taken aX8_restUp aX8_restDown m_fewest m_wishes aX8_wished aX8_far aX8_queue m_divided aX8_divisors aX8_least m_pairOne m_pairTwo m_sumUp m_sumDown Q hF m_many m_row m_isSpent l1 l3 0 r_m_many r_m_row r_m_isSpent r_l1 r_l3 (r32_lit _ (by decide)) h
  replace h := h.2 b5
  refine q_iconst g (1) dX8_cutUp_9 ?_
  refine q_goto g (4) 14 (by decide) dX8_cutUp_10 ?_
  exact s_X8_cutUp_14 g hR hX8 aX8_ups aX8_downs aX8_row m_found aX8_sumMany aX8_sumShares aX8_sumSet aX8_taken aX8_restUp aX8_restDown m_fewest m_wishes aX8_wished aX8_far aX8_queue m_divided aX8_divisors aX8_least m_pairOne m_pairTwo m_sumUp m_sumDown Q hF m_many m_row m_isSpent l1 l3 1 r_m_many r_m_row r_m_isSpent r_l1 r_l3 (r32_lit _ (by decide)) h
theorem dX8_cuts_0 : decode cX8_cuts 0 = .ok (.iload_n 1, 1) := by decide +kernel
theorem dX8_cuts_1 : decode cX8_cuts 1 = .ok (.ifCond .lt 7, 3) := by decide +kernel
theorem dX8_cuts_4 : decode cX8_cuts 4 = .ok (.iload_n 2, 1) := by decide +kernel
theorem dX8_cuts_5 : decode cX8_cuts 5 = .ok (.ifCond .ge 5, 3) := by decide +kernel
theorem dX8_cuts_8 : decode cX8_cuts 8 = .ok (.iconst (-1), 1) := by decide +kernel
theorem dX8_cuts_9 : decode cX8_cuts 9 = .ok (.ireturn, 1) := by decide +kernel
theorem dX8_cuts_10 : decode cX8_cuts 10 = .ok (.aload_n 0, 1) := by decide +kernel
theorem dX8_cuts_11 : decode cX8_cuts 11 = .ok (.getfield 20, 3) := by decide +kernel
theorem dX8_cuts_14 : decode cX8_cuts 14 = .ok (.ifCond .lt 19, 3) := by decide +kernel
theorem dX8_cuts_17 : decode cX8_cuts 17 = .ok (.iload_n 1, 1) := by decide +kernel
theorem dX8_cuts_18 : decode cX8_cuts 18 = .ok (.aload_n 0, 1) := by decide +kernel
theorem dX8_cuts_19 : decode cX8_cuts 19 = .ok (.getfield 20, 3) := by decide +kernel
theorem dX8_cuts_22 : decode cX8_cuts 22 = .ok (.if_icmp .ge 11, 3) := by decide +kernel
theorem dX8_cuts_25 : decode cX8_cuts 25 = .ok (.iload_n 2, 1) := by decide +kernel
theorem dX8_cuts_26 : decode cX8_cuts 26 = .ok (.aload_n 0, 1) := by decide +kernel
theorem dX8_cuts_27 : decode cX8_cuts 27 = .ok (.getfield 20, 3) := by decide +kernel
theorem dX8_cuts_30 : decode cX8_cuts 30 = .ok (.if_icmp .lt 6, 3) := by decide +kernel
theorem dX8_cuts_33 : decode cX8_cuts 33 = .ok (.bipush (-2), 2) := by decide +kernel
theorem dX8_cuts_35 : decode cX8_cuts 35 = .ok (.ireturn, 1) := by decide +kernel
theorem dX8_cuts_36 : decode cX8_cuts 36 = .ok (.iconst 0, 1) := by decide +kernel
theorem dX8_cuts_37 : decode cX8_cuts 37 = .ok (.istore_n 3, 1) := by decide +kernel
theorem dX8_cuts_38 : decode cX8_cuts 38 = .ok (.iload_n 3, 1) := by decide +kernel
theorem dX8_cuts_39 : decode cX8_cuts 39 = .ok (.aload_n 0, 1) := by decide +kernel
theorem dX8_cuts_40 : decode cX8_cuts 40 = .ok (.getfield 20, 3) := by decide +kernel
theorem dX8_cuts_43 : decode cX8_cuts 43 = .ok (.if_icmp .ge 17, 3) := by decide +kernel
theorem dX8_cuts_46 : decode cX8_cuts 46 = .ok (.aload_n 0, 1) := by decide +kernel
theorem dX8_cuts_47 : decode cX8_cuts 47 = .ok (.getfield 45, 3) := by decide +kernel
theorem dX8_cuts_50 : decode cX8_cuts 50 = .ok (.iload_n 3, 1) := by decide +kernel
theorem dX8_cuts_51 : decode cX8_cuts 51 = .ok (.bipush (-4), 2) := by decide +kernel
theorem dX8_cuts_53 : decode cX8_cuts 53 = .ok (.iastore, 1) := by decide +kernel
theorem dX8_cuts_54 : decode cX8_cuts 54 = .ok (.iinc 3 1, 3) := by decide +kernel
theorem dX8_cuts_57 : decode cX8_cuts 57 = .ok (.goto (-19), 3) := by decide +kernel
theorem dX8_cuts_60 : decode cX8_cuts 60 = .ok (.aload_n 0, 1) := by decide +kernel
theorem dX8_cuts_61 : decode cX8_cuts 61 = .ok (.getfield 45, 3) := by decide +kernel
theorem dX8_cuts_64 : decode cX8_cuts 64 = .ok (.iload_n 1, 1) := by decide +kernel
theorem dX8_cuts_65 : decode cX8_cuts 65 = .ok (.iconst 0, 1) := by decide +kernel
theorem dX8_cuts_66 : decode cX8_cuts 66 = .ok (.iastore, 1) := by decide +kernel
theorem dX8_cuts_67 : decode cX8_cuts 67 = .ok (.aload_n 0, 1) := by decide +kernel
theorem dX8_cuts_68 : decode cX8_cuts 68 = .ok (.getfield 48, 3) := by decide +kernel
theorem dX8_cuts_71 : decode cX8_cuts 71 = .ok (.iconst 0, 1) := by decide +kernel
theorem dX8_cuts_72 : decode cX8_cuts 72 = .ok (.iload_n 1, 1) := by decide +kernel
theorem dX8_cuts_73 : decode cX8_cuts 73 = .ok (.iastore, 1) := by decide +kernel
theorem dX8_cuts_74 : decode cX8_cuts 74 = .ok (.iconst 0, 1) := by decide +kernel
theorem dX8_cuts_75 : decode cX8_cuts 75 = .ok (.istore_n 3, 1) := by decide +kernel
theorem dX8_cuts_76 : decode cX8_cuts 76 = .ok (.iconst 1, 1) := by decide +kernel
theorem dX8_cuts_77 : decode cX8_cuts 77 = .ok (.istore 4, 2) := by decide +kernel
theorem dX8_cuts_79 : decode cX8_cuts 79 = .ok (.iload_n 3, 1) := by decide +kernel
theorem dX8_cuts_80 : decode cX8_cuts 80 = .ok (.iload 4, 2) := by decide +kernel
theorem dX8_cuts_82 : decode cX8_cuts 82 = .ok (.if_icmp .ge 93, 3) := by decide +kernel
theorem dX8_cuts_85 : decode cX8_cuts 85 = .ok (.aload_n 0, 1) := by decide +kernel
theorem dX8_cuts_86 : decode cX8_cuts 86 = .ok (.getfield 45, 3) := by decide +kernel
theorem dX8_cuts_89 : decode cX8_cuts 89 = .ok (.iload_n 2, 1) := by decide +kernel
theorem dX8_cuts_90 : decode cX8_cuts 90 = .ok (.iaload, 1) := by decide +kernel
theorem dX8_cuts_91 : decode cX8_cuts 91 = .ok (.ifCond .ge 84, 3) := by decide +kernel
theorem dX8_cuts_94 : decode cX8_cuts 94 = .ok (.aload_n 0, 1) := by decide +kernel
theorem dX8_cuts_95 : decode cX8_cuts 95 = .ok (.getfield 48, 3) := by decide +kernel
theorem dX8_cuts_98 : decode cX8_cuts 98 = .ok (.iload_n 3, 1) := by decide +kernel
theorem dX8_cuts_99 : decode cX8_cuts 99 = .ok (.iaload, 1) := by decide +kernel
theorem dX8_cuts_100 : decode cX8_cuts 100 = .ok (.istore 5, 2) := by decide +kernel
theorem dX8_cuts_102 : decode cX8_cuts 102 = .ok (.iinc 3 1, 3) := by decide +kernel
theorem dX8_cuts_105 : decode cX8_cuts 105 = .ok (.iconst 0, 1) := by decide +kernel
theorem dX8_cuts_106 : decode cX8_cuts 106 = .ok (.istore 6, 2) := by decide +kernel
theorem dX8_cuts_108 : decode cX8_cuts 108 = .ok (.iload 6, 2) := by decide +kernel
theorem dX8_cuts_110 : decode cX8_cuts 110 = .ok (.aload_n 0, 1) := by decide +kernel
theorem dX8_cuts_111 : decode cX8_cuts 111 = .ok (.getfield 20, 3) := by decide +kernel
theorem dX8_cuts_114 : decode cX8_cuts 114 = .ok (.if_icmp .ge 58, 3) := by decide +kernel
theorem dX8_cuts_117 : decode cX8_cuts 117 = .ok (.aload_n 0, 1) := by decide +kernel
theorem dX8_cuts_118 : decode cX8_cuts 118 = .ok (.getfield 45, 3) := by decide +kernel
theorem dX8_cuts_121 : decode cX8_cuts 121 = .ok (.iload 6, 2) := by decide +kernel
theorem dX8_cuts_123 : decode cX8_cuts 123 = .ok (.iaload, 1) := by decide +kernel
theorem dX8_cuts_124 : decode cX8_cuts 124 = .ok (.ifCond .ge 42, 3) := by decide +kernel
theorem dX8_cuts_127 : decode cX8_cuts 127 = .ok (.aload_n 0, 1) := by decide +kernel
theorem dX8_cuts_128 : decode cX8_cuts 128 = .ok (.iload 5, 2) := by decide +kernel
theorem dX8_cuts_130 : decode cX8_cuts 130 = .ok (.iload 6, 2) := by decide +kernel
theorem dX8_cuts_132 : decode cX8_cuts 132 = .ok (.invokevirtual 177, 3) := by decide +kernel
theorem dX8_cuts_135 : decode cX8_cuts 135 = .ok (.ifCond .eq 31, 3) := by decide +kernel
theorem dX8_cuts_138 : decode cX8_cuts 138 = .ok (.aload_n 0, 1) := by decide +kernel
theorem dX8_cuts_139 : decode cX8_cuts 139 = .ok (.getfield 45, 3) := by decide +kernel
theorem dX8_cuts_142 : decode cX8_cuts 142 = .ok (.iload 6, 2) := by decide +kernel
theorem dX8_cuts_144 : decode cX8_cuts 144 = .ok (.aload_n 0, 1) := by decide +kernel
theorem dX8_cuts_145 : decode cX8_cuts 145 = .ok (.getfield 45, 3) := by decide +kernel
theorem dX8_cuts_148 : decode cX8_cuts 148 = .ok (.iload 5, 2) := by decide +kernel
theorem dX8_cuts_150 : decode cX8_cuts 150 = .ok (.iaload, 1) := by decide +kernel
theorem dX8_cuts_151 : decode cX8_cuts 151 = .ok (.iconst 1, 1) := by decide +kernel
theorem dX8_cuts_152 : decode cX8_cuts 152 = .ok (.iadd, 1) := by decide +kernel
theorem dX8_cuts_153 : decode cX8_cuts 153 = .ok (.iastore, 1) := by decide +kernel
theorem dX8_cuts_154 : decode cX8_cuts 154 = .ok (.aload_n 0, 1) := by decide +kernel
theorem dX8_cuts_155 : decode cX8_cuts 155 = .ok (.getfield 48, 3) := by decide +kernel
theorem dX8_cuts_158 : decode cX8_cuts 158 = .ok (.iload 4, 2) := by decide +kernel
theorem dX8_cuts_160 : decode cX8_cuts 160 = .ok (.iload 6, 2) := by decide +kernel
theorem dX8_cuts_162 : decode cX8_cuts 162 = .ok (.iastore, 1) := by decide +kernel
theorem dX8_cuts_163 : decode cX8_cuts 163 = .ok (.iinc 4 1, 3) := by decide +kernel
theorem dX8_cuts_166 : decode cX8_cuts 166 = .ok (.iinc 6 1, 3) := by decide +kernel
theorem dX8_cuts_169 : decode cX8_cuts 169 = .ok (.goto (-61), 3) := by decide +kernel
theorem dX8_cuts_172 : decode cX8_cuts 172 = .ok (.goto (-93), 3) := by decide +kernel
theorem dX8_cuts_175 : decode cX8_cuts 175 = .ok (.aload_n 0, 1) := by decide +kernel
theorem dX8_cuts_176 : decode cX8_cuts 176 = .ok (.getfield 45, 3) := by decide +kernel
theorem dX8_cuts_179 : decode cX8_cuts 179 = .ok (.iload_n 2, 1) := by decide +kernel
theorem dX8_cuts_180 : decode cX8_cuts 180 = .ok (.iaload, 1) := by decide +kernel
theorem dX8_cuts_181 : decode cX8_cuts 181 = .ok (.ireturn, 1) := by decide +kernel
abbrev po_X8_cuts (cI cJ : ClassId) (hX8 : Nat) (aX8_ups : Nat) (aX8_downs : Nat) (m_many : Int) (aX8_row : Nat) (m_isSpent : Int) (m_found : Int) (aX8_sumMany : Nat) (aX8_sumShares : Nat) (aX8_sumSet : Nat) (aX8_taken : Nat) (aX8_restUp : Nat) (aX8_restDown : Nat) (m_fewest : Int) (m_wishes : Int) (aX8_wished : Nat) (aX8_far : Nat) (aX8_queue : Nat) (m_divided : Int) (aX8_divisors : Nat) (aX8_least : Nat) (m_pairOne : Int) (m_pairTwo : Int) (m_sumUp : Int) (m_sumDown : Int) (m_sumMany : Int → Int) (m_sumSet : Int → Int) (Q : Int → (Int → Int) → (Int → Int) → Prop) : Option Value → va_W → Prop := fun rv w1 => ∃ (r0 : Int) (m_far : Int → Int) (m_queue : Int → Int), rv = some (.int (i32 r0)) ∧ w1 = [(hX8, .inr (7, [.ref aX8_ups, .ref aX8_downs, .int (i32 m_many), .ref aX8_row, .int (i32 m_isSpent), .int (i32 m_found), .ref aX8_sumMany, .ref aX8_sumShares, .ref aX8_sumSet, .ref aX8_taken, .ref aX8_restUp, .ref aX8_restDown, .int (i32 m_fewest), .int (i32 m_wishes), .ref aX8_wished, .ref aX8_far, .ref aX8_queue, .int (i32 m_divided), .ref aX8_divisors, .ref aX8_least, .long (i64 m_pairOne), .long (i64 m_pairTwo), .long (i64 m_sumUp), .long (i64 m_sumDown)])), (aX8_sumMany, aI cI 2000 m_sumMany), (aX8_sumSet, aL cJ 2000 m_sumSet), (aX8_far, aI cI 2000 m_far), (aX8_queue, aI cI 2000 m_queue)] ∧ r32 r0 ∧ rr32 m_far ∧ rr32 m_queue ∧ Q r0 m_far m_queue
def wp_X8_cuts_8 (Q : Int → (Int → Int) → (Int → Int) → Prop) (m_found : Int) (m_sumMany : Int → Int) (m_sumSet : Int → Int) (m_far : Int → Int) (m_queue : Int → Int) : Prop := Q (-1) m_far m_queue
set_option maxHeartbeats 4000000 in
set_option maxRecDepth 100000 in
theorem s_X8_cuts_8 {X : Cx} (g : Gd X cX8_cuts RX8 (some .int) 7) (hR : X.R = rmL 3 0 0) (hX8 : Nat) (aX8_ups : Nat) (aX8_downs : Nat) (m_many : Int) (aX8_row : Nat) (m_isSpent : Int) (aX8_sumMany : Nat) (aX8_sumShares : Nat) (aX8_sumSet : Nat) (aX8_taken : Nat) (aX8_restUp : Nat) (aX8_restDown : Nat) (m_fewest : Int) (m_wishes : Int) (aX8_wished : Nat) (aX8_far : Nat) (aX8_queue : Nat) (m_divided : Int) (aX8_divisors : Nat) (aX8_least : Nat) (m_pairOne : Int) (m_pairTwo : Int) (m_sumUp : Int) (m_sumDown : Int) (m_found : Int) (m_sumMany : Int → Int) (m_sumSet : Int → Int) (r_m_found : r32 m_found) (r_m_sumMany : rr32 m_sumMany) (r_m_sumSet : rr64 m_sumSet) (Q : Int → (Int → Int) → (Int → Int) → Prop) (hF : FQ X 0 0 (po_X8_cuts X.cI X.cJ hX8 aX8_ups aX8_downs m_many aX8_row m_isSpent m_found aX8_sumMany aX8_sumShares aX8_sumSet aX8_taken aX8_restUp aX8_restDown m_fewest m_wishes aX8_wished aX8_far aX8_queue m_divided aX8_divisors aX8_least m_pairOne m_pairTwo m_sumUp m_sumDown m_sumMany m_sumSet Q)) : ∀ (m_far : Int → Int) (m_queue : Int → Int), rr32 m_far → rr32 m_queue → wp_X8_cuts_8 Q m_found m_sumMany m_sumSet m_far m_queue → Wat X 0 0 8 [] [] [(hX8, .inr (7, [.ref aX8_ups, .ref aX8_downs, .int (i32 m_many), .ref aX8_row, .int (i32 m_isSpent), .int (i32 m_found), .ref aX8_sumMany, .ref aX8_sumShares, .ref aX8_sumSet, .ref aX8_taken, .ref aX8_restUp, .ref aX8_restDown, .int (i32 m_fewest), .int (i32 m_wishes), .ref aX8_wished, .ref aX8_far, .ref aX8_queue, .int (i32 m_divided), .ref aX8_divisors, .ref aX8_least, .long (i64 m_pairOne), .long (i64 m_pairTwo), .long (i64 m_sumUp), .long (i64 m_sumDown)])), (aX8_sumMany, aI X.cI 2000 m_sumMany), (aX8_sumSet, aL X.cJ 2000 m_sumSet), (aX8_far, aI X.cI 2000 m_far), (aX8_queue, aI X.cI 2000 m_queue)] := by
  intro m_far m_queue r_m_far r_m_queue h
  rw [wp_X8_cuts_8] at h
  refine q_iconst g (-1) dX8_cuts_8 ?_
  exact q_iret g hF ⟨(-1), m_far, m_queue, rfl, rfl, (r32_lit _ (by decide)), r_m_far, r_m_queue, h⟩ dX8_cuts_9
def wp_X8_cuts_33 (Q : Int → (Int → Int) → (Int → Int) → Prop) (m_found : Int) (m_sumMany : Int → Int) (m_sumSet : Int → Int) (m_far : Int → Int) (m_queue : Int → Int) : Prop := Q (-2) m_far m_queue
set_option maxHeartbeats 4000000 in
set_option maxRecDepth 100000 in
theorem s_X8_cuts_33 {X : Cx} (g : Gd X cX8_cuts RX8 (some .int) 7) (hR : X.R = rmL 3 0 0) (hX8 : Nat) (aX8_ups : Nat) (aX8_downs : Nat) (m_many : Int) (aX8_row : Nat) (m_isSpent : Int) (aX8_sumMany : Nat) (aX8_sumShares : Nat) (aX8_sumSet : Nat) (aX8_taken : Nat) (aX8_restUp : Nat) (aX8_restDown : Nat) (m_fewest : Int) (m_wishes : Int) (aX8_wished : Nat) (aX8_far : Nat) (aX8_queue : Nat) (m_divided : Int) (aX8_divisors : Nat) (aX8_least : Nat) (m_pairOne : Int) (m_pairTwo : Int) (m_sumUp : Int) (m_sumDown : Int) (m_found : Int) (m_sumMany : Int → Int) (m_sumSet : Int → Int) (r_m_found : r32 m_found) (r_m_sumMany : rr32 m_sumMany) (r_m_sumSet : rr64 m_sumSet) (Q : Int → (Int → Int) → (Int → Int) → Prop) (hF : FQ X 0 0 (po_X8_cuts X.cI X.cJ hX8 aX8_ups aX8_downs m_many aX8_row m_isSpent m_found aX8_sumMany aX8_sumShares aX8_sumSet aX8_taken aX8_restUp aX8_restDown m_fewest m_wishes aX8_wished aX8_far aX8_queue m_divided aX8_divisors aX8_least m_pairOne m_pairTwo m_sumUp m_sumDown m_sumMany m_sumSet Q)) : ∀ (m_far : Int → Int) (m_queue : Int → Int), rr32 m_far → rr32 m_queue → wp_X8_cuts_33 Q m_found m_sumMany m_sumSet m_far m_queue → Wat X 0 0 33 [] [] [(hX8, .inr (7, [.ref aX8_ups, .ref aX8_downs, .int (i32 m_many), .ref aX8_row, .int (i32 m_isSpent), .int (i32 m_found), .ref aX8_sumMany, .ref aX8_sumShares, .ref aX8_sumSet, .ref aX8_taken, .ref aX8_restUp, .ref aX8_restDown, .int (i32 m_fewest), .int (i32 m_wishes), .ref aX8_wished, .ref aX8_far, .ref aX8_queue, .int (i32 m_divided), .ref aX8_divisors, .ref aX8_least, .long (i64 m_pairOne), .long (i64 m_pairTwo), .long (i64 m_sumUp), .long (i64 m_sumDown)])), (aX8_sumMany, aI X.cI 2000 m_sumMany), (aX8_sumSet, aL X.cJ 2000 m_sumSet), (aX8_far, aI X.cI 2000 m_far), (aX8_queue, aI X.cI 2000 m_queue)] := by
  intro m_far m_queue r_m_far r_m_queue h
  rw [wp_X8_cuts_33] at h
  refine q_bipush g (-2) (by decide) (by decide) dX8_cuts_33 ?_
  exact q_iret g hF ⟨(-2), m_far, m_queue, rfl, rfl, (r32_lit _ (by decide)), r_m_far, r_m_queue, h⟩ dX8_cuts_35
def wp_X8_cuts_166 (Q : Int → (Int → Int) → (Int → Int) → Prop) (m_found : Int) (m_sumMany : Int → Int) (m_sumSet : Int → Int) (K_79 : (Int → Int) → (Int → Int) → Int → Int → Int → Prop) (K_108 : (Int → Int) → (Int → Int) → Int → Int → Int → Int → Int → Prop) (m_far : Int → Int) (m_queue : Int → Int) (l2 : Int) (l3 : Int) (l4 : Int) (l5 : Int) (l6 : Int) : Prop := (r32 (l6 + 1) ∧ K_108 m_far m_queue l2 l3 l4 l5 (l6 + 1))
set_option maxHeartbeats 4000000 in
set_option maxRecDepth 100000 in
theorem s_X8_cuts_166 {X : Cx} (g : Gd X cX8_cuts RX8 (some .int) 7) (hR : X.R = rmL 3 0 0) (hX8 : Nat) (aX8_ups : Nat) (aX8_downs : Nat) (m_many : Int) (aX8_row : Nat) (m_isSpent : Int) (aX8_sumMany : Nat) (aX8_sumShares : Nat) (aX8_sumSet : Nat) (aX8_taken : Nat) (aX8_restUp : Nat) (aX8_restDown : Nat) (m_fewest : Int) (m_wishes : Int) (aX8_wished : Nat) (aX8_far : Nat) (aX8_queue : Nat) (m_divided : Int) (aX8_divisors : Nat) (aX8_least : Nat) (m_pairOne : Int) (m_pairTwo : Int) (m_sumUp : Int) (m_sumDown : Int) (m_found : Int) (m_sumMany : Int → Int) (m_sumSet : Int → Int) (r_m_found : r32 m_found) (r_m_sumMany : rr32 m_sumMany) (r_m_sumSet : rr64 m_sumSet) (Q : Int → (Int → Int) → (Int → Int) → Prop) (hF : FQ X 0 0 (po_X8_cuts X.cI X.cJ hX8 aX8_ups aX8_downs m_many aX8_row m_isSpent m_found aX8_sumMany aX8_sumShares aX8_sumSet aX8_taken aX8_restUp aX8_restDown m_fewest m_wishes aX8_wished aX8_far aX8_queue m_divided aX8_divisors aX8_least m_pairOne m_pairTwo m_sumUp m_sumDown m_sumMany m_sumSet Q)) (K_79 : (Int → Int) → (Int → Int) → Int → Int → Int → Prop) (hK_79 : ∀ (m_far : Int → Int) (m_queue : Int → Int) (l2 : Int) (l3 : Int) (l4 : Int), rr32 m_far → rr32 m_queue → r32 l2 → r32 l3 → r32 l4 → K_79 m_far m_queue l2 l3 l4 → Wat X 0 0 79 [(0, .ref hX8), (2, .int (i32 l2)), (3, .int (i32 l3)), (4, .int (i32 l4))] [] [(hX8, .inr (7, [.ref aX8_ups, .ref aX8_downs, .int (i32 m_many), .ref aX8_row, .int (i32 m_isSpent), .int (i32 m_found), .ref aX8_sumMany, .ref aX8_sumShares, .ref aX8_sumSet, .ref aX8_taken, .ref aX8_restUp, .ref aX8_restDown, .int (i32 m_fewest), .int (i32 m_wishes), .ref aX8_wished, .ref aX8_far, .ref aX8_queue, .int (i32 m_divided), .ref aX8_divisors, .ref aX8_least, .long (i64 m_pairOne), .long (i64 m_pairTwo), .long (i64 m_sumUp), .long (i64 m_sumDown)])), (aX8_sumMany, aI X.cI 2000 m_sumMany), (aX8_sumSet, aL X.cJ 2000 m_sumSet), (aX8_far, aI X.cI 2000 m_far), (aX8_queue, aI X.cI 2000 m_queue)]) (K_108 : (Int → Int) → (Int → Int) → Int → Int → Int → Int → Int → Prop) (hK_108 : ∀ (m_far : Int → Int) (m_queue : Int → Int) (l2 : Int) (l3 : Int) (l4 : Int) (l5 : Int) (l6 : Int), rr32 m_far → rr32 m_queue → r32 l2 → r32 l3 → r32 l4 → r32 l5 → r32 l6 → K_108 m_far m_queue l2 l3 l4 l5 l6 → Wat X 0 0 108 [(0, .ref hX8), (2, .int (i32 l2)), (3, .int (i32 l3)), (4, .int (i32 l4)), (5, .int (i32 l5)), (6, .int (i32 l6))] [] [(hX8, .inr (7, [.ref aX8_ups, .ref aX8_downs, .int (i32 m_many), .ref aX8_row, .int (i32 m_isSpent), .int (i32 m_found), .ref aX8_sumMany, .ref aX8_sumShares, .ref aX8_sumSet, .ref aX8_taken, .ref aX8_restUp, .ref aX8_restDown, .int (i32 m_fewest), .int (i32 m_wishes), .ref aX8_wished, .ref aX8_far, .ref aX8_queue, .int (i32 m_divided), .ref aX8_divisors, .ref aX8_least, .long (i64 m_pairOne), .long (i64 m_pairTwo), .long (i64 m_sumUp), .long (i64 m_sumDown)])), (aX8_sumMany, aI X.cI 2000 m_sumMany), (aX8_sumSet, aL X.cJ 2000 m_sumSet), (aX8_far, aI X.cI 2000 m_far), (aX8_queue, aI X.cI 2000 m_queue)]) : ∀ (m_far : Int → Int) (m_queue : Int → Int) (l2 : Int) (l3 : Int) (l4 : Int) (l5 : Int) (l6 : Int), rr32 m_far → rr32 m_queue → r32 l2 → r32 l3 → r32 l4 → r32 l5 → r32 l6 → wp_X8_cuts_166 Q m_found m_sumMany m_sumSet K_79 K_108 m_far m_queue l2 l3 l4 l5 l6 → Wat X 0 0 166 [(0, .ref hX8), (2, .int (i32 l2)), (3, .int (i32 l3)), (4, .int (i32 l4)), (5, .int (i32 l5)), (6, .int (i32 l6))] [] [(hX8, .inr (7, [.ref aX8_ups, .ref aX8_downs, .int (i32 m_many), .ref aX8_row, .int (i32 m_isSpent), .int (i32 m_found), .ref aX8_sumMany, .ref aX8_sumShares, .ref aX8_sumSet, .ref aX8_taken, .ref aX8_restUp, .ref aX8_restDown, .int (i32 m_fewest), .int (i32 m_wishes), .ref aX8_wished, .ref aX8_far, .ref aX8_queue, .int (i32 m_divided), .ref aX8_divisors, .ref aX8_least, .long (i64 m_pairOne), .long (i64 m_pairTwo), .long (i64 m_sumUp), .long (i64 m_sumDown)])), (aX8_sumMany, aI X.cI 2000 m_sumMany), (aX8_sumSet, aL X.cJ 2000 m_sumSet), (aX8_far, aI X.cI 2000 m_far), (aX8_queue, aI X.cI 2000 m_queue)] := by
  intro m_far m_queue l2 l3 l4 l5 l6 r_m_far r_m_queue r_l2 r_l3 r_l4 r_l5 r_l6 h
  rw [wp_X8_cuts_166] at h
  obtain ⟨c166, h⟩ := h
  refine q_iinc (lv' := [(6, .int (i32 (l6 + 1))), (0, .ref hX8), (2, .int (i32 l2)), (3, .int (i32 l3)), (4, .int (i32 l4)), (5, .int (i32 l5))]) g 6 5 1 (by decide) rfl rfl dX8_cuts_166 ?_
  refine q_goto g (-61) 108 (by decide) dX8_cuts_169 ?_
  refine q_lv (lv' := [(0, .ref hX8), (2, .int (i32 l2)), (3, .int (i32 l3)), (4, .int (i32 l4)), (5, .int (i32 l5)), (6, .int (i32 (l6 + 1)))]) [1, 2, 3, 4, 5, 0] rfl ?_
  exact hK_108 m_far m_queue l2 l3 l4 l5 (l6 + 1) r_m_far r_m_queue r_l2 r_l3 r_l4 r_l5 c166 h
def wp_X8_cuts_108 (Q : Int → (Int → Int) → (Int → Int) → Prop) (m_found : Int) (m_sumMany : Int → Int) (m_sumSet : Int → Int) (K_79 : (Int → Int) → (Int → Int) → Int → Int → Int → Prop) : Nat → (Int → Int) → (Int → Int) → Int → Int → Int → Int → Int → Prop
  | 0, _, _, _, _, _, _, _ => False
  | n + 1, m_far, m_queue, l2, l3, l4, l5, l6 => ((m_found ≤ l6 → K_79 m_far m_queue l2 l3 l4) ∧
  (¬ (m_found ≤ l6) → (0 ≤ l6 ∧ l6 < 2000 ∧ ((0 ≤ (m_far l6) → wp_X8_cuts_166 Q m_found m_sumMany m_sumSet K_79 (wp_X8_cuts_108 Q m_found m_sumMany m_sumSet K_79 n) m_far m_queue l2 l3 l4 l5 l6) ∧
  (¬ (0 ≤ (m_far l6)) → wp_X8_isCut (fun (x132 : Int) => ((x132 = 0 → wp_X8_cuts_166 Q m_found m_sumMany m_sumSet K_79 (wp_X8_cuts_108 Q m_found m_sumMany m_sumSet K_79 n) m_far m_queue l2 l3 l4 l5 l6) ∧
  (¬ (x132 = 0) → (0 ≤ l5 ∧ l5 < 2000 ∧ r32 ((m_far l5) + 1) ∧ ∀ x153 : Int, x153 = ((m_far l5) + 1) → 0 ≤ l6 ∧ l6 < 2000 ∧ 0 ≤ l4 ∧ l4 < 2000 ∧ r32 (l4 + 1) ∧ wp_X8_cuts_166 Q m_found m_sumMany m_sumSet K_79 (wp_X8_cuts_108 Q m_found m_sumMany m_sumSet K_79 n) (ups m_far l6 x153) (ups m_queue l4 l6) l2 l3 (l4 + 1) l5 l6)))) m_sumMany m_sumSet l5 l6)))))
set_option maxHeartbeats 4000000 in
set_option maxRecDepth 100000 in
theorem s_X8_cuts_108 {X : Cx} (g : Gd X cX8_cuts RX8 (some .int) 7) (hR : X.R = rmL 3 0 0) (hX8 : Nat) (aX8_ups : Nat) (aX8_downs : Nat) (m_many : Int) (aX8_row : Nat) (m_isSpent : Int) (aX8_sumMany : Nat) (aX8_sumShares : Nat) (aX8_sumSet : Nat) (aX8_taken : Nat) (aX8_restUp : Nat) (aX8_restDown : Nat) (m_fewest : Int) (m_wishes : Int) (aX8_wished : Nat) (aX8_far : Nat) (aX8_queue : Nat) (m_divided : Int) (aX8_divisors : Nat) (aX8_least : Nat) (m_pairOne : Int) (m_pairTwo : Int) (m_sumUp : Int) (m_sumDown : Int) (m_found : Int) (m_sumMany : Int → Int) (m_sumSet : Int → Int) (r_m_found : r32 m_found) (r_m_sumMany : rr32 m_sumMany) (r_m_sumSet : rr64 m_sumSet) (Q : Int → (Int → Int) → (Int → Int) → Prop) (hF : FQ X 0 0 (po_X8_cuts X.cI X.cJ hX8 aX8_ups aX8_downs m_many aX8_row m_isSpent m_found aX8_sumMany aX8_sumShares aX8_sumSet aX8_taken aX8_restUp aX8_restDown m_fewest m_wishes aX8_wished aX8_far aX8_queue m_divided aX8_divisors aX8_least m_pairOne m_pairTwo m_sumUp m_sumDown m_sumMany m_sumSet Q)) (K_79 : (Int → Int) → (Int → Int) → Int → Int → Int → Prop) (hK_79 : ∀ (m_far : Int → Int) (m_queue : Int → Int) (l2 : Int) (l3 : Int) (l4 : Int), rr32 m_far → rr32 m_queue → r32 l2 → r32 l3 → r32 l4 → K_79 m_far m_queue l2 l3 l4 → Wat X 0 0 79 [(0, .ref hX8), (2, .int (i32 l2)), (3, .int (i32 l3)), (4, .int (i32 l4))] [] [(hX8, .inr (7, [.ref aX8_ups, .ref aX8_downs, .int (i32 m_many), .ref aX8_row, .int (i32 m_isSpent), .int (i32 m_found), .ref aX8_sumMany, .ref aX8_sumShares, .ref aX8_sumSet, .ref aX8_taken, .ref aX8_restUp, .ref aX8_restDown, .int (i32 m_fewest), .int (i32 m_wishes), .ref aX8_wished, .ref aX8_far, .ref aX8_queue, .int (i32 m_divided), .ref aX8_divisors, .ref aX8_least, .long (i64 m_pairOne), .long (i64 m_pairTwo), .long (i64 m_sumUp), .long (i64 m_sumDown)])), (aX8_sumMany, aI X.cI 2000 m_sumMany), (aX8_sumSet, aL X.cJ 2000 m_sumSet), (aX8_far, aI X.cI 2000 m_far), (aX8_queue, aI X.cI 2000 m_queue)]) : ∀ (n : Nat) (m_far : Int → Int) (m_queue : Int → Int) (l2 : Int) (l3 : Int) (l4 : Int) (l5 : Int) (l6 : Int), rr32 m_far → rr32 m_queue → r32 l2 → r32 l3 → r32 l4 → r32 l5 → r32 l6 → wp_X8_cuts_108 Q m_found m_sumMany m_sumSet K_79 n m_far m_queue l2 l3 l4 l5 l6 → Wat X 0 0 108 [(0, .ref hX8), (2, .int (i32 l2)), (3, .int (i32 l3)), (4, .int (i32 l4)), (5, .int (i32 l5)), (6, .int (i32 l6))] [] [(hX8, .inr (7, [.ref aX8_ups, .ref aX8_downs, .int (i32 m_many), .ref aX8_row, .int (i32 m_isSpent), .int (i32 m_found), .ref aX8_sumMany, .ref aX8_sumShares, .ref aX8_sumSet, .ref aX8_taken, .ref aX8_restUp, .ref aX8_restDown, .int (i32 m_fewest), .int (i32 m_wishes), .ref aX8_wished, .ref aX8_far, .ref aX8_queue, .int (i32 m_divided), .ref aX8_divisors, .ref aX8_least, .long (i64 m_pairOne), .long (i64 m_pairTwo), .long (i64 m_sumUp), .long (i64 m_sumDown)])), (aX8_sumMany, aI X.cI 2000 m_sumMany), (aX8_sumSet, aL X.cJ 2000 m_sumSet), (aX8_far, aI X.cI 2000 m_far), (aX8_queue, aI X.cI 2000 m_queue)] := by
  intro n
  induction n with
  | zero => intro m_far m_queue l2 l3 l4 l5 l6 r_m_far r_m_queue r_l2 r_l3 r_l4 r_l5 r_l6 h; exact False.elim h
  | succ n ih =>
    intro m_far m_queue l2 l3 l4 l5 l6 r_m_far r_m_queue r_l2 r_l3 r_l4 r_l5 r_l6 h
    rw [wp_X8_cuts_108] at h
    refine q_iload g 6 5 rfl dX8_cuts_108 ?_
    refine q_aload_n g 0 0 rfl dX8_cuts_110 ?_
    refine q_get (C := RX8) (T := TX8) (N := 24) g 20 inX8 0 5 rfl rfl (by decide) wF_X8_20 rfl dX8_cuts_111 ?_
    refine q_icmp_ge g (58) 172 r_l6 r_m_found (by decide) dX8_cuts_114 (fun b114 => ?_) (fun b114 => ?_)
    · replace h := h.1 b114
      refine q_goto g (-93) 79 (by decide) dX8_cuts_172 ?_
      refine q_lv (lv' := [(0, .ref hX8), (2, .int (i32 l2)), (3, .int (i32 l3)), (4, .int (i32 l4))]) [0, 1, 2, 3] rfl ?_
      exact hK_79 m_far m_queue l2 l3 l4 r_m_far r_m_queue r_l2 r_l3 r_l4 h
    replace h := h.2 b114
    refine q_aload_n g 0 0 rfl dX8_cuts_117 ?_
    refine q_get (C := RX8) (T := TX8) (N := 24) g 45 inX8 0 15 rfl rfl (by decide) wF_X8_45 rfl dX8_cuts_118 ?_
    refine q_iload g 6 5 rfl dX8_cuts_121 ?_
    obtain ⟨c123, h⟩ := h
    obtain ⟨e123, h⟩ := h
    refine q_iald g 3 rfl c123 e123 (by decide) dX8_cuts_123 ?_
    refine q_if_ge g (42) 166 (r_m_far _) (by decide) dX8_cuts_124 (fun b124 => ?_) (fun b124 => ?_)
    · replace h := h.1 b124
      exact s_X8_cuts_166 g hR hX8 aX8_ups aX8_downs m_many aX8_row m_isSpent aX8_sumMany aX8_sumShares aX8_sumSet aX8_taken aX8_restUp aX8_restDown m_fewest m_wishes aX8_wished aX8_far aX8_queue m_divided aX8_divisors aX8_least m_pairOne m_pairTwo m_sumUp m_sumDown m_found m_sumMany m_sumSet r_m_found r_m_sumMany r_m_sumSet Q hF K_79 hK_79 (wp_X8_cuts_108 Q m_found m_sumMany m_sumSet K_79 n) (fun v0 v1 v2 v3 v4 v5 v6 w0 w1 w2 w3 w4 w5 w6 hh => ih v0 v1 v2 v3 v4 v5 v6 w0 w1 w2 w3 w4 w5 w6 hh) m_far m_queue l2 l3 l4 l5 l6 r_m_far r_m_queue r_l2 r_l3 r_l4 r_l5 r_l6 h
    replace h := h.2 b124
    refine q_aload_n g 0 0 rfl dX8_cuts_127 ?_
    refine q_iload g 5 4 rfl dX8_cuts_128 ?_
    refine q_iload g 6 5 rfl dX8_cuts_130 ?_
    refine q_callV (lev := 2) (mc := 0) (ms := 0) g 177 (c_X8_isCut X.l X.D X.cI X.cJ X.zt hX8 aX8_ups aX8_downs m_many aX8_row m_isSpent m_found aX8_sumMany aX8_sumShares aX8_sumSet aX8_taken aX8_restUp aX8_restDown m_fewest m_wishes aX8_wished aX8_far aX8_queue m_divided aX8_divisors aX8_least m_pairOne m_pairTwo m_sumUp m_sumDown m_sumMany m_sumSet l5 l6 _ r_m_sumMany r_m_sumSet r_l5 r_l6 h) (wr := [(aX8_far, aI X.cI 2000 m_far), (aX8_queue, aI X.cI 2000 m_queue)]) [0, 1, 2] [3, 4] rfl rfl rfl (by decide) (by decide) (by decide) (ci := 7) rfl rfl rfl wM_X8_177 wI_X8_isCut wS_X8_isCut wZ_X8 wC_X8_isCut 2 rfl (by decide +kernel) (by rw [hR]; exact ⟨by show 2 + 1 ≤ 3; omega, by show 8 + (6 + 11) + 100 * 2 ≤ 100 * 3; omega⟩) (by rw [hR]; exact ⟨Nat.le_refl _, Nat.le_refl _⟩) (Nat.le_of_ble_eq_true rfl) rfl dX8_cuts_132 (fun rv w1 hq => ?_)
    obtain ⟨x132, rfl, rfl, rx132, h⟩ := hq
    refine q_ws (ws' := [(hX8, .inr (7, [.ref aX8_ups, .ref aX8_downs, .int (i32 m_many), .ref aX8_row, .int (i32 m_isSpent), .int (i32 m_found), .ref aX8_sumMany, .ref aX8_sumShares, .ref aX8_sumSet, .ref aX8_taken, .ref aX8_restUp, .ref aX8_restDown, .int (i32 m_fewest), .int (i32 m_wishes), .ref aX8_wished, .ref aX8_far, .ref aX8_queue, .int (i32 m_divided), .ref aX8_divisors, .ref aX8_least, .long (i64 m_pairOne), .long (i64 m_pairTwo), .long (i64 m_sumUp), .long (i64 m_sumDown)])), (aX8_sumMany, aI X.cI 2000 m_sumMany), (aX8_sumSet, aL X.cJ 2000 m_sumSet), (aX8_far, aI X.cI 2000 m_far), (aX8_queue, aI X.cI 2000 m_queue)]) [2, 3, 4, 0, 1] (by decide) rfl rfl ?_
    show Wat X 0 0 135 [(0, .ref hX8), (2, .int (i32 l2)), (3, .int (i32 l3)), (4, .int (i32 l4)), (5, .int (i32 l5)), (6, .int (i32 l6))] [.int (i32 x132)] [(hX8, .inr (7, [.ref aX8_ups, .ref aX8_downs, .int (i32 m_many), .ref aX8_row, .int (i32 m_isSpent), .int (i32 m_found), .ref aX8_sumMany, .ref aX8_sumShares, .ref aX8_sumSet, .ref aX8_taken, .ref aX8_restUp, .ref aX8_restDown, .int (i32 m_fewest), .int (i32 m_wishes), .ref aX8_wished, .ref aX8_far, .ref aX8_queue, .int (i32 m_divided), .ref aX8_divisors, .ref aX8_least, .long (i64 m_pairOne), .long (i64 m_pairTwo), .long (i64 m_sumUp), .long (i64 m_sumDown)])), (aX8_sumMany, aI X.cI 2000 m_sumMany), (aX8_sumSet, aL X.cJ 2000 m_sumSet), (aX8_far, aI X.cI 2000 m_far), (aX8_queue, aI X.cI 2000 m_queue)]
    refine q_if_eq g (31) 166 rx132 (by decide) dX8_cuts_135 (fun b135 => ?_) (fun b135 => ?_)
    · replace h := h.1 b135
      exact s_X8_cuts_166 g hR hX8 aX8_ups aX8_downs m_many aX8_row m_isSpent aX8_sumMany aX8_sumShares aX8_sumSet aX8_taken aX8_restUp aX8_restDown m_fewest m_wishes aX8_wished aX8_far aX8_queue m_divided aX8_divisors aX8_least m_pairOne m_pairTwo m_sumUp m_sumDown m_found m_sumMany m_sumSet r_m_found r_m_sumMany r_m_sumSet Q hF K_79 hK_79 (wp_X8_cuts_108 Q m_found m_sumMany m_sumSet K_79 n) (fun v0 v1 v2 v3 v4 v5 v6 w0 w1 w2 w3 w4 w5 w6 hh => ih v0 v1 v2 v3 v4 v5 v6 w0 w1 w2 w3 w4 w5 w6 hh) m_far m_queue l2 l3 l4 l5 l6 r_m_far r_m_queue r_l2 r_l3 r_l4 r_l5 r_l6 h
    replace h := h.2 b135
    refine q_aload_n g 0 0 rfl dX8_cuts_138 ?_
    refine q_get (C := RX8) (T := TX8) (N := 24) g 45 inX8 0 15 rfl rfl (by decide) wF_X8_45 rfl dX8_cuts_139 ?_
    refine q_iload g 6 5 rfl dX8_cuts_142 ?_
    refine q_aload_n g 0 0 rfl dX8_cuts_144 ?_
    refine q_get (C := RX8) (T := TX8) (N := 24) g 45 inX8 0 15 rfl rfl (by decide) wF_X8_45 rfl dX8_cuts_145 ?_
    refine q_iload g 5 4 rfl dX8_cuts_148 ?_
    obtain ⟨c150, h⟩ := h
    obtain ⟨e150, h⟩ := h
    refine q_iald g 3 rfl c150 e150 (by decide) dX8_cuts_150 ?_
    refine q_iconst g (1) dX8_cuts_151 ?_
    obtain ⟨c152, h⟩ := h
    refine q_iadd g dX8_cuts_152 ?_
    refine q_topi c152 (fun x153 ex153 rx153 => ?_)
    replace h := h x153 ex153
    obtain ⟨c153, h⟩ := h
    obtain ⟨e153, h⟩ := h
    refine q_iast (ws' := [(hX8, .inr (7, [.ref aX8_ups, .ref aX8_downs, .int (i32 m_many), .ref aX8_row, .int (i32 m_isSpent), .int (i32 m_found), .ref aX8_sumMany, .ref aX8_sumShares, .ref aX8_sumSet, .ref aX8_taken, .ref aX8_restUp, .ref aX8_restDown, .int (i32 m_fewest), .int (i32 m_wishes), .ref aX8_wished, .ref aX8_far, .ref aX8_queue, .int (i32 m_divided), .ref aX8_divisors, .ref aX8_least, .long (i64 m_pairOne), .long (i64 m_pairTwo), .long (i64 m_sumUp), .long (i64 m_sumDown)])), (aX8_sumMany, aI X.cI 2000 m_sumMany), (aX8_sumSet, aL X.cJ 2000 m_sumSet), (aX8_far, aI X.cI 2000 (ups m_far l6 x153)), (aX8_queue, aI X.cI 2000 m_queue)]) g 3 rfl c153 e153 (by decide) rfl dX8_cuts_153 ?_
    refine q_aload_n g 0 0 rfl dX8_cuts_154 ?_
    refine q_get (C := RX8) (T := TX8) (N := 24) g 48 inX8 0 16 rfl rfl (by decide) wF_X8_48 rfl dX8_cuts_155 ?_
    refine q_iload g 4 3 rfl dX8_cuts_158 ?_
    refine q_iload g 6 5 rfl dX8_cuts_160 ?_
    obtain ⟨c162, h⟩ := h
    obtain ⟨e162, h⟩ := h
    refine q_iast (ws' := [(hX8, .inr (7, [.ref aX8_ups, .ref aX8_downs, .int (i32 m_many), .ref aX8_row, .int (i32 m_isSpent), .int (i32 m_found), .ref aX8_sumMany, .ref aX8_sumShares, .ref aX8_sumSet, .ref aX8_taken, .ref aX8_restUp, .ref aX8_restDown, .int (i32 m_fewest), .int (i32 m_wishes), .ref aX8_wished, .ref aX8_far, .ref aX8_queue, .int (i32 m_divided), .ref aX8_divisors, .ref aX8_least, .long (i64 m_pairOne), .long (i64 m_pairTwo), .long (i64 m_sumUp), .long (i64 m_sumDown)])), (aX8_sumMany, aI X.cI 2000 m_sumMany), (aX8_sumSet, aL X.cJ 2000 m_sumSet), (aX8_far, aI X.cI 2000 (ups m_far l6 x153)), (aX8_queue, aI X.cI 2000 (ups m_queue l4 l6))]) g 4 rfl c162 e162 (by decide) rfl dX8_cuts_162 ?_
    obtain ⟨c163, h⟩ := h
    refine q_iinc (lv' := [(4, .int (i32 (l4 + 1))), (0, .ref hX8), (2, .int (i32 l2)), (3, .int (i32 l3)), (5, .int (i32 l5)), (6, .int (i32 l6))]) g 4 3 1 (by decide) rfl rfl dX8_cuts_163 ?_
    refine q_lv (lv' := [(0, .ref hX8), (2, .int (i32 l2)), (3, .int (i32 l3)), (4, .int (i32 (l4 + 1))), (5, .int (i32 l5)), (6, .int (i32 l6))]) [1, 2, 3, 0, 4, 5] rfl ?_
    exact s_X8_cuts_166 g hR hX8 aX8_ups aX8_downs m_many aX8_row m_isSpent aX8_sumMany aX8_sumShares aX8_sumSet aX8_taken aX8_restUp aX8_restDown m_fewest m_wishes aX8_wished aX8_far aX8_queue m_divided aX8_divisors aX8_least m_pairOne m_pairTwo m_sumUp m_sumDown m_found m_sumMany m_sumSet r_m_found r_m_sumMany r_m_sumSet Q hF K_79 hK_79 (wp_X8_cuts_108 Q m_found m_sumMany m_sumSet K_79 n) (fun v0 v1 v2 v3 v4 v5 v6 w0 w1 w2 w3 w4 w5 w6 hh => ih v0 v1 v2 v3 v4 v5 v6 w0 w1 w2 w3 w4 w5 w6 hh) (ups m_far l6 x153) (ups m_queue l4 l6) l2 l3 (l4 + 1) l5 l6 (rr32_u r_m_far rx153) (rr32_u r_m_queue r_l6) r_l2 r_l3 c163 r_l5 r_l6 h
def wp_X8_cuts_175 (Q : Int → (Int → Int) → (Int → Int) → Prop) (m_found : Int) (m_sumMany : Int → Int) (m_sumSet : Int → Int) (m_far : Int → Int) (m_queue : Int → Int) (l2 : Int) : Prop := (0 ≤ l2 ∧ l2 < 2000 ∧ Q (m_far l2) m_far m_queue)
set_option maxHeartbeats 4000000 in
set_option maxRecDepth 100000 in
theorem s_X8_cuts_175 {X : Cx} (g : Gd X cX8_cuts RX8 (some .int) 7) (hR : X.R = rmL 3 0 0) (hX8 : Nat) (aX8_ups : Nat) (aX8_downs : Nat) (m_many : Int) (aX8_row : Nat) (m_isSpent : Int) (aX8_sumMany : Nat) (aX8_sumShares : Nat) (aX8_sumSet : Nat) (aX8_taken : Nat) (aX8_restUp : Nat) (aX8_restDown : Nat) (m_fewest : Int) (m_wishes : Int) (aX8_wished : Nat) (aX8_far : Nat) (aX8_queue : Nat) (m_divided : Int) (aX8_divisors : Nat) (aX8_least : Nat) (m_pairOne : Int) (m_pairTwo : Int) (m_sumUp : Int) (m_sumDown : Int) (m_found : Int) (m_sumMany : Int → Int) (m_sumSet : Int → Int) (r_m_found : r32 m_found) (r_m_sumMany : rr32 m_sumMany) (r_m_sumSet : rr64 m_sumSet) (Q : Int → (Int → Int) → (Int → Int) → Prop) (hF : FQ X 0 0 (po_X8_cuts X.cI X.cJ hX8 aX8_ups aX8_downs m_many aX8_row m_isSpent m_found aX8_sumMany aX8_sumShares aX8_sumSet aX8_taken aX8_restUp aX8_restDown m_fewest m_wishes aX8_wished aX8_far aX8_queue m_divided aX8_divisors aX8_least m_pairOne m_pairTwo m_sumUp m_sumDown m_sumMany m_sumSet Q)) : ∀ (m_far : Int → Int) (m_queue : Int → Int) (l2 : Int), rr32 m_far → rr32 m_queue → r32 l2 → wp_X8_cuts_175 Q m_found m_sumMany m_sumSet m_far m_queue l2 → Wat X 0 0 175 [(0, .ref hX8), (2, .int (i32 l2))] [] [(hX8, .inr (7, [.ref aX8_ups, .ref aX8_downs, .int (i32 m_many), .ref aX8_row, .int (i32 m_isSpent), .int (i32 m_found), .ref aX8_sumMany, .ref aX8_sumShares, .ref aX8_sumSet, .ref aX8_taken, .ref aX8_restUp, .ref aX8_restDown, .int (i32 m_fewest), .int (i32 m_wishes), .ref aX8_wished, .ref aX8_far, .ref aX8_queue, .int (i32 m_divided), .ref aX8_divisors, .ref aX8_least, .long (i64 m_pairOne), .long (i64 m_pairTwo), .long (i64 m_sumUp), .long (i64 m_sumDown)])), (aX8_sumMany, aI X.cI 2000 m_sumMany), (aX8_sumSet, aL X.cJ 2000 m_sumSet), (aX8_far, aI X.cI 2000 m_far), (aX8_queue, aI X.cI 2000 m_queue)] := by
  intro m_far m_queue l2 r_m_far r_m_queue r_l2 h
  rw [wp_X8_cuts_175] at h
  refine q_aload_n g 0 0 rfl dX8_cuts_175 ?_
  refine q_get (C := RX8) (T := TX8) (N := 24) g 45 inX8 0 15 rfl rfl (by decide) wF_X8_45 rfl dX8_cuts_176 ?_
  refine q_iload_n g 2 1 rfl dX8_cuts_179 ?_
  obtain ⟨c180, h⟩ := h
  obtain ⟨e180, h⟩ := h
  refine q_iald g 3 rfl c180 e180 (by decide) dX8_cuts_180 ?_
  exact q_iret g hF ⟨(m_far l2), m_far, m_queue, rfl, rfl, (r_m_far _), r_m_far, r_m_queue, h⟩ dX8_cuts_181
def wp_X8_cuts_79 (Q : Int → (Int → Int) → (Int → Int) → Prop) (m_found : Int) (m_sumMany : Int → Int) (m_sumSet : Int → Int) : Nat → (Int → Int) → (Int → Int) → Int → Int → Int → Prop
  | 0, _, _, _, _, _ => False
  | n + 1, m_far, m_queue, l2, l3, l4 => ((l4 ≤ l3 → wp_X8_cuts_175 Q m_found m_sumMany m_sumSet m_far m_queue l2) ∧
  (¬ (l4 ≤ l3) → (0 ≤ l2 ∧ l2 < 2000 ∧ ((0 ≤ (m_far l2) → wp_X8_cuts_175 Q m_found m_sumMany m_sumSet m_far m_queue l2) ∧
  (¬ (0 ≤ (m_far l2)) → (0 ≤ l3 ∧ l3 < 2000 ∧ ∀ x100 : Int, x100 = (m_queue l3) → r32 (l3 + 1) ∧ (∃ n0 : Nat, wp_X8_cuts_108 Q m_found m_sumMany m_sumSet (wp_X8_cuts_79 Q m_found m_sumMany m_sumSet n) n0 m_far m_queue l2 (l3 + 1) l4 x100 0)))))))
set_option maxHeartbeats 4000000 in
set_option maxRecDepth 100000 in
theorem s_X8_cuts_79 {X : Cx} (g : Gd X cX8_cuts RX8 (some .int) 7) (hR : X.R = rmL 3 0 0) (hX8 : Nat) (aX8_ups : Nat) (aX8_downs : Nat) (m_many : Int) (aX8_row : Nat) (m_isSpent : Int) (aX8_sumMany : Nat) (aX8_sumShares : Nat) (aX8_sumSet : Nat) (aX8_taken : Nat) (aX8_restUp : Nat) (aX8_restDown : Nat) (m_fewest : Int) (m_wishes : Int) (aX8_wished : Nat) (aX8_far : Nat) (aX8_queue : Nat) (m_divided : Int) (aX8_divisors : Nat) (aX8_least : Nat) (m_pairOne : Int) (m_pairTwo : Int) (m_sumUp : Int) (m_sumDown : Int) (m_found : Int) (m_sumMany : Int → Int) (m_sumSet : Int → Int) (r_m_found : r32 m_found) (r_m_sumMany : rr32 m_sumMany) (r_m_sumSet : rr64 m_sumSet) (Q : Int → (Int → Int) → (Int → Int) → Prop) (hF : FQ X 0 0 (po_X8_cuts X.cI X.cJ hX8 aX8_ups aX8_downs m_many aX8_row m_isSpent m_found aX8_sumMany aX8_sumShares aX8_sumSet aX8_taken aX8_restUp aX8_restDown m_fewest m_wishes aX8_wished aX8_far aX8_queue m_divided aX8_divisors aX8_least m_pairOne m_pairTwo m_sumUp m_sumDown m_sumMany m_sumSet Q)) : ∀ (n : Nat) (m_far : Int → Int) (m_queue : Int → Int) (l2 : Int) (l3 : Int) (l4 : Int), rr32 m_far → rr32 m_queue → r32 l2 → r32 l3 → r32 l4 → wp_X8_cuts_79 Q m_found m_sumMany m_sumSet n m_far m_queue l2 l3 l4 → Wat X 0 0 79 [(0, .ref hX8), (2, .int (i32 l2)), (3, .int (i32 l3)), (4, .int (i32 l4))] [] [(hX8, .inr (7, [.ref aX8_ups, .ref aX8_downs, .int (i32 m_many), .ref aX8_row, .int (i32 m_isSpent), .int (i32 m_found), .ref aX8_sumMany, .ref aX8_sumShares, .ref aX8_sumSet, .ref aX8_taken, .ref aX8_restUp, .ref aX8_restDown, .int (i32 m_fewest), .int (i32 m_wishes), .ref aX8_wished, .ref aX8_far, .ref aX8_queue, .int (i32 m_divided), .ref aX8_divisors, .ref aX8_least, .long (i64 m_pairOne), .long (i64 m_pairTwo), .long (i64 m_sumUp), .long (i64 m_sumDown)])), (aX8_sumMany, aI X.cI 2000 m_sumMany), (aX8_sumSet, aL X.cJ 2000 m_sumSet), (aX8_far, aI X.cI 2000 m_far), (aX8_queue, aI X.cI 2000 m_queue)] := by
  intro n
  induction n with
  | zero => intro m_far m_queue l2 l3 l4 r_m_far r_m_queue r_l2 r_l3 r_l4 h; exact False.elim h
  | succ n ih =>
    intro m_far m_queue l2 l3 l4 r_m_far r_m_queue r_l2 r_l3 r_l4 h
    rw [wp_X8_cuts_79] at h
    refine q_iload_n g 3 2 rfl dX8_cuts_79 ?_
    refine q_iload g 4 3 rfl dX8_cuts_80 ?_
    refine q_icmp_ge g (93) 175 r_l3 r_l4 (by decide) dX8_cuts_82 (fun b82 => ?_) (fun b82 => ?_)
    · replace h := h.1 b82
      refine q_lv (lv' := [(0, .ref hX8), (2, .int (i32 l2))]) [0, 1] rfl ?_
      exact s_X8_cuts_175 g hR hX8 aX8_ups aX8_downs m_many aX8_row m_isSpent aX8_sumMany aX8_sumShares aX8_sumSet aX8_taken aX8_restUp aX8_restDown m_fewest m_wishes aX8_wished aX8_far aX8_queue m_divided aX8_divisors aX8_least m_pairOne m_pairTwo m_sumUp m_sumDown m_found m_sumMany m_sumSet r_m_found r_m_sumMany r_m_sumSet Q hF m_far m_queue l2 r_m_far r_m_queue r_l2 h
    replace h := h.2 b82
    refine q_aload_n g 0 0 rfl dX8_cuts_85 ?_
    refine q_get (C := RX8) (T := TX8) (N := 24) g 45 inX8 0 15 rfl rfl (by decide) wF_X8_45 rfl dX8_cuts_86 ?_
    refine q_iload_n g 2 1 rfl dX8_cuts_89 ?_
    obtain ⟨c90, h⟩ := h
    obtain ⟨e90, h⟩ := h
    refine q_iald g 3 rfl c90 e90 (by decide) dX8_cuts_90 ?_
    refine q_if_ge g (84) 175 (r_m_far _) (by decide) dX8_cuts_91 (fun b91 => ?_) (fun b91 => ?_)
    · replace h := h.1 b91
      refine q_lv (lv' := [(0, .ref hX8), (2, .int (i32 l2))]) [0, 1] rfl ?_
      exact s_X8_cuts_175 g hR hX8 aX8_ups aX8_downs m_many aX8_row m_isSpent aX8_sumMany aX8_sumShares aX8_sumSet aX8_taken aX8_restUp aX8_restDown m_fewest m_wishes aX8_wished aX8_far aX8_queue m_divided aX8_divisors aX8_least m_pairOne m_pairTwo m_sumUp m_sumDown m_found m_sumMany m_sumSet r_m_found r_m_sumMany r_m_sumSet Q hF m_far m_queue l2 r_m_far r_m_queue r_l2 h
    replace h := h.2 b91
    refine q_aload_n g 0 0 rfl dX8_cuts_94 ?_
    refine q_get (C := RX8) (T := TX8) (N := 24) g 48 inX8 0 16 rfl rfl (by decide) wF_X8_48 rfl dX8_cuts_95 ?_
    refine q_iload_n g 3 2 rfl dX8_cuts_98 ?_
    obtain ⟨c99, h⟩ := h
    obtain ⟨e99, h⟩ := h
    refine q_iald g 4 rfl c99 e99 (by decide) dX8_cuts_99 ?_
    refine q_topi (r_m_queue _) (fun x100 ex100 rx100 => ?_)
    replace h := h x100 ex100
    refine q_istore (lv' := [(5, .int (i32 x100)), (0, .ref hX8), (2, .int (i32 l2)), (3, .int (i32 l3)), (4, .int (i32 l4))]) g 5   (by decide) rfl dX8_cuts_100 ?_
    obtain ⟨c102, h⟩ := h
    refine q_iinc (lv' := [(3, .int (i32 (l3 + 1))), (5, .int (i32 x100)), (0, .ref hX8), (2, .int (i32 l2)), (4, .int (i32 l4))]) g 3 3 1 (by decide) rfl rfl dX8_cuts_102 ?_
    refine q_iconst g (0) dX8_cuts_105 ?_
    refine q_istore (lv' := [(6, .int (i32 0)), (3, .int (i32 (l3 + 1))), (5, .int (i32 x100)), (0, .ref hX8), (2, .int (i32 l2)), (4, .int (i32 l4))]) g 6   (by decide) rfl dX8_cuts_106 ?_
    refine q_lv (lv' := [(0, .ref hX8), (2, .int (i32 l2)), (3, .int (i32 (l3 + 1))), (4, .int (i32 l4)), (5, .int (i32 x100)), (6, .int (i32 0))]) [3, 4, 1, 5, 2, 0] rfl ?_
    obtain ⟨n0, h⟩ := h
    exact s_X8_cuts_108 g hR hX8 aX8_ups aX8_downs m_many aX8_row m_isSpent aX8_sumMany aX8_sumShares aX8_sumSet aX8_taken aX8_restUp aX8_restDown m_fewest m_wishes aX8_wished aX8_far aX8_queue m_divided aX8_divisors aX8_least m_pairOne m_pairTwo m_sumUp m_sumDown m_found m_sumMany m_sumSet r_m_found r_m_sumMany r_m_sumSet Q hF (wp_X8_cuts_79 Q m_found m_sumMany m_sumSet n) (fun v0 v1 v2 v3 v4 w0 w1 w2 w3 w4 hh => ih v0 v1 v2 v3 v4 w0 w1 w2 w3 w4 hh) n0 m_far m_queue l2 (l3 + 1) l4 x100 0 r_m_far r_m_queue r_l2 c102 r_l4 rx100 (r32_lit _ (by decide)) h
def wp_X8_cuts_38 (Q : Int → (Int → Int) → (Int → Int) → Prop) (m_found : Int) (m_sumMany : Int → Int) (m_sumSet : Int → Int) : Nat → (Int → Int) → (Int → Int) → Int → Int → Int → Prop
  | 0, _, _, _, _, _ => False
  | n + 1, m_far, m_queue, l1, l2, l3 => ((m_found ≤ l3 → (0 ≤ l1 ∧ l1 < 2000 ∧ (∃ n0 : Nat, wp_X8_cuts_79 Q m_found m_sumMany m_sumSet n0 (ups m_far l1 0) (ups m_queue 0 l1) l2 0 1))) ∧
  (¬ (m_found ≤ l3) → (0 ≤ l3 ∧ l3 < 2000 ∧ r32 (l3 + 1) ∧ wp_X8_cuts_38 Q m_found m_sumMany m_sumSet n (ups m_far l3 (-4)) m_queue l1 l2 (l3 + 1))))
set_option maxHeartbeats 4000000 in
set_option maxRecDepth 100000 in
theorem s_X8_cuts_38 {X : Cx} (g : Gd X cX8_cuts RX8 (some .int) 7) (hR : X.R = rmL 3 0 0) (hX8 : Nat) (aX8_ups : Nat) (aX8_downs : Nat) (m_many : Int) (aX8_row : Nat) (m_isSpent : Int) (aX8_sumMany : Nat) (aX8_sumShares : Nat) (aX8_sumSet : Nat) (aX8_taken : Nat) (aX8_restUp : Nat) (aX8_restDown : Nat) (m_fewest : Int) (m_wishes : Int) (aX8_wished : Nat) (aX8_far : Nat) (aX8_queue : Nat) (m_divided : Int) (aX8_divisors : Nat) (aX8_least : Nat) (m_pairOne : Int) (m_pairTwo : Int) (m_sumUp : Int) (m_sumDown : Int) (m_found : Int) (m_sumMany : Int → Int) (m_sumSet : Int → Int) (r_m_found : r32 m_found) (r_m_sumMany : rr32 m_sumMany) (r_m_sumSet : rr64 m_sumSet) (Q : Int → (Int → Int) → (Int → Int) → Prop) (hF : FQ X 0 0 (po_X8_cuts X.cI X.cJ hX8 aX8_ups aX8_downs m_many aX8_row m_isSpent m_found aX8_sumMany aX8_sumShares aX8_sumSet aX8_taken aX8_restUp aX8_restDown m_fewest m_wishes aX8_wished aX8_far aX8_queue m_divided aX8_divisors aX8_least m_pairOne m_pairTwo m_sumUp m_sumDown m_sumMany m_sumSet Q)) : ∀ (n : Nat) (m_far : Int → Int) (m_queue : Int → Int) (l1 : Int) (l2 : Int) (l3 : Int), rr32 m_far → rr32 m_queue → r32 l1 → r32 l2 → r32 l3 → wp_X8_cuts_38 Q m_found m_sumMany m_sumSet n m_far m_queue l1 l2 l3 → Wat X 0 0 38 [(0, .ref hX8), (1, .int (i32 l1)), (2, .int (i32 l2)), (3, .int (i32 l3))] [] [(hX8, .inr (7, [.ref aX8_ups, .ref aX8_downs, .int (i32 m_many), .ref aX8_row, .int (i32 m_isSpent), .int (i32 m_found), .ref aX8_sumMany, .ref aX8_sumShares, .ref aX8_sumSet, .ref aX8_taken, .ref aX8_restUp, .ref aX8_restDown, .int (i32 m_fewest), .int (i32 m_wishes), .ref aX8_wished, .ref aX8_far, .ref aX8_queue, .int (i32 m_divided), .ref aX8_divisors, .ref aX8_least, .long (i64 m_pairOne), .long (i64 m_pairTwo), .long (i64 m_sumUp), .long (i64 m_sumDown)])), (aX8_sumMany, aI X.cI 2000 m_sumMany), (aX8_sumSet, aL X.cJ 2000 m_sumSet), (aX8_far, aI X.cI 2000 m_far), (aX8_queue, aI X.cI 2000 m_queue)] := by
  intro n
  induction n with
  | zero => intro m_far m_queue l1 l2 l3 r_m_far r_m_queue r_l1 r_l2 r_l3 h; exact False.elim h
  | succ n ih =>
    intro m_far m_queue l1 l2 l3 r_m_far r_m_queue r_l1 r_l2 r_l3 h
    rw [wp_X8_cuts_38] at h
    refine q_iload_n g 3 3 rfl dX8_cuts_38 ?_
    refine q_aload_n g 0 0 rfl dX8_cuts_39 ?_
    refine q_get (C := RX8) (T := TX8) (N := 24) g 20 inX8 0 5 rfl rfl (by decide) wF_X8_20 rfl dX8_cuts_40 ?_
    refine q_icmp_ge g (17) 60 r_l3 r_m_found (by decide) dX8_cuts_43 (fun b43 => ?_) (fun b43 => ?_)
    · replace h := h.1 b43
      refine q_aload_n g 0 0 rfl dX8_cuts_60 ?_
      refine q_get (C := RX8) (T := TX8) (N := 24) g 45 inX8 0 15 rfl rfl (by decide) wF_X8_45 rfl dX8_cuts_61 ?_
      refine q_iload_n g 1 1 rfl dX8_cuts_64 ?_
      refine q_iconst g (0) dX8_cuts_65 ?_
      obtain ⟨c66, h⟩ := h
      obtain ⟨e66, h⟩ := h
      refine q_iast (ws' := [(hX8, .inr (7, [.ref aX8_ups, .ref aX8_downs, .int (i32 m_many), .ref aX8_row, .int (i32 m_isSpent), .int (i32 m_found), .ref aX8_sumMany, .ref aX8_sumShares, .ref aX8_sumSet, .ref aX8_taken, .ref aX8_restUp, .ref aX8_restDown, .int (i32 m_fewest), .int (i32 m_wishes), .ref aX8_wished, .ref aX8_far, .ref aX8_queue, .int (i32 m_divided), .ref aX8_divisors, .ref aX8_least, .long (i64 m_pairOne), .long (i64 m_pairTwo), .long (i64 m_sumUp), .long (i64 m_sumDown)])), (aX8_sumMany, aI X.cI 2000 m_sumMany), (aX8_sumSet, aL X.cJ 2000 m_sumSet), (aX8_far, aI X.cI 2000 (ups m_far l1 0)), (aX8_queue, aI X.cI 2000 m_queue)]) g 3 rfl c66 e66 (by decide) rfl dX8_cuts_66 ?_
      refine q_aload_n g 0 0 rfl dX8_cuts_67 ?_
      refine q_get (C := RX8) (T := TX8) (N := 24) g 48 inX8 0 16 rfl rfl (by decide) wF_X8_48 rfl dX8_cuts_68 ?_
      refine q_iconst g (0) dX8_cuts_71 ?_
      refine q_iload_n g 1 1 rfl dX8_cuts_72 ?_
      refine q_iast (ws' := [(hX8, .inr (7, [.ref aX8_ups, .ref aX8_downs, .int (i32 m_many), .ref aX8_row, .int (i32 m_isSpent), .int (i32 m_found), .ref aX8_sumMany, .ref aX8_sumShares, .ref aX8_sumSet, .ref aX8_taken, .ref aX8_restUp, .ref aX8_restDown, .int (i32 m_fewest), .int (i32 m_wishes), .ref aX8_wished, .ref aX8_far, .ref aX8_queue, .int (i32 m_divided), .ref aX8_divisors, .ref aX8_least, .long (i64 m_pairOne), .long (i64 m_pairTwo), .long (i64 m_sumUp), .long (i64 m_sumDown)])), (aX8_sumMany, aI X.cI 2000 m_sumMany), (aX8_sumSet, aL X.cJ 2000 m_sumSet), (aX8_far, aI X.cI 2000 (ups m_far l1 0)), (aX8_queue, aI X.cI 2000 (ups m_queue 0 l1))]) g 4 rfl (by decide) (by decide) (by decide) rfl dX8_cuts_73 ?_
      refine q_iconst g (0) dX8_cuts_74 ?_
      refine q_istore_n (lv' := [(3, .int (i32 0)), (0, .ref hX8), (1, .int (i32 l1)), (2, .int (i32 l2))]) g 3 3 rfl (by decide) rfl dX8_cuts_75 ?_
      refine q_iconst g (1) dX8_cuts_76 ?_
      refine q_istore (lv' := [(4, .int (i32 1)), (3, .int (i32 0)), (0, .ref hX8), (1, .int (i32 l1)), (2, .int (i32 l2))]) g 4   (by decide) rfl dX8_cuts_77 ?_
      refine q_lv (lv' := [(0, .ref hX8), (2, .int (i32 l2)), (3, .int (i32 0)), (4, .int (i32 1))]) [2, 4, 1, 0] rfl ?_
      obtain ⟨n0, h⟩ := h
      exact s_X8_cuts_79 g hR hX8 aX8_ups aX8_downs m_many aX8_row m_isSpent aX8_sumMany aX8_sumShares aX8_sumSet aX8_taken aX8_restUp aX8_restDown m_fewest m_wishes aX8_wished aX8_far aX8_queue m_divided aX8_divisors aX8_least m_pairOne m_pairTwo m_sumUp m_sumDown m_found m_sumMany m_sumSet r_m_found r_m_sumMany r_m_sumSet Q hF n0 (ups m_far l1 0) (ups m_queue 0 l1) l2 0 1 (rr32_u r_m_far (r32_lit _ (by decide))) (rr32_u r_m_queue r_l1) r_l2 (r32_lit _ (by decide)) (r32_lit _ (by decide)) h
    replace h := h.2 b43
    refine q_aload_n g 0 0 rfl dX8_cuts_46 ?_
    refine q_get (C := RX8) (T := TX8) (N := 24) g 45 inX8 0 15 rfl rfl (by decide) wF_X8_45 rfl dX8_cuts_47 ?_
    refine q_iload_n g 3 3 rfl dX8_cuts_50 ?_
    refine q_bipush g (-4) (by decide) (by decide) dX8_cuts_51 ?_
    obtain ⟨c53, h⟩ := h
    obtain ⟨e53, h⟩ := h
    refine q_iast (ws' := [(hX8, .inr (7, [.ref aX8_ups, .ref aX8_downs, .int (i32 m_many), .ref aX8_row, .int (i32 m_isSpent), .int (i32 m_found), .ref aX8_sumMany, .ref aX8_sumShares, .ref aX8_sumSet, .ref aX8_taken, .ref aX8_restUp, .ref aX8_restDown, .int (i32 m_fewest), .int (i32 m_wishes), .ref aX8_wished, .ref aX8_far, .ref aX8_queue, .int (i32 m_divided), .ref aX8_divisors, .ref aX8_least, .long (i64 m_pairOne), .long (i64 m_pairTwo), .long (i64 m_sumUp), .long (i64 m_sumDown)])), (aX8_sumMany, aI X.cI 2000 m_sumMany), (aX8_sumSet, aL X.cJ 2000 m_sumSet), (aX8_far, aI X.cI 2000 (ups m_far l3 (-4))), (aX8_queue, aI X.cI 2000 m_queue)]) g 3 rfl c53 e53 (by decide) rfl dX8_cuts_53 ?_
    obtain ⟨c54, h⟩ := h
    refine q_iinc (lv' := [(3, .int (i32 (l3 + 1))), (0, .ref hX8), (1, .int (i32 l1)), (2, .int (i32 l2))]) g 3 3 1 (by decide) rfl rfl dX8_cuts_54 ?_
    refine q_goto g (-19) 38 (by decide) dX8_cuts_57 ?_
    refine q_lv (lv' := [(0, .ref hX8), (1, .int (i32 l1)), (2, .int (i32 l2)), (3, .int (i32 (l3 + 1)))]) [1, 2, 3, 0] rfl ?_
    exact ih (ups m_far l3 (-4)) m_queue l1 l2 (l3 + 1) (rr32_u r_m_far (r32_lit _ (by decide))) r_m_queue r_l1 r_l2 c54 h
def wp_X8_cuts (Q : Int → (Int → Int) → (Int → Int) → Prop) (m_found : Int) (m_sumMany : Int → Int) (m_sumSet : Int → Int) (m_far : Int → Int) (m_queue : Int → Int) (l1 : Int) (l2 : Int) : Prop := ((l1 < 0 → wp_X8_cuts_8 Q m_found m_sumMany m_sumSet m_far m_queue) ∧
  (¬ (l1 < 0) → ((0 ≤ l2 → ((m_found < 0 → wp_X8_cuts_33 Q m_found m_sumMany m_sumSet m_far m_queue) ∧
  (¬ (m_found < 0) → ((m_found ≤ l1 → wp_X8_cuts_33 Q m_found m_sumMany m_sumSet m_far m_queue) ∧
  (¬ (m_found ≤ l1) → ((l2 < m_found → (∃ n0 : Nat, wp_X8_cuts_38 Q m_found m_sumMany m_sumSet n0 m_far m_queue l1 l2 0)) ∧
  (¬ (l2 < m_found) → wp_X8_cuts_33 Q m_found m_sumMany m_sumSet m_far m_queue))))))) ∧
  (¬ (0 ≤ l2) → wp_X8_cuts_8 Q m_found m_sumMany m_sumSet m_far m_queue))))
set_option maxHeartbeats 4000000 in
set_option maxRecDepth 100000 in
theorem c_X8_cuts (l : Launch) (D : va_G) (cI cJ : ClassId) (zt : Nat) (hX8 : Nat) (aX8_ups : Nat) (aX8_downs : Nat) (m_many : Int) (aX8_row : Nat) (m_isSpent : Int) (m_found : Int) (aX8_sumMany : Nat) (aX8_sumShares : Nat) (aX8_sumSet : Nat) (aX8_taken : Nat) (aX8_restUp : Nat) (aX8_restDown : Nat) (m_fewest : Int) (m_wishes : Int) (aX8_wished : Nat) (aX8_far : Nat) (aX8_queue : Nat) (m_divided : Int) (aX8_divisors : Nat) (aX8_least : Nat) (m_pairOne : Int) (m_pairTwo : Int) (m_sumUp : Int) (m_sumDown : Int) (m_sumMany : Int → Int) (m_sumSet : Int → Int) (m_far : Int → Int) (m_queue : Int → Int) (l1 : Int) (l2 : Int) (Q : Int → (Int → Int) → (Int → Int) → Prop) (r_m_found : r32 m_found) (r_m_sumMany : rr32 m_sumMany) (r_m_sumSet : rr64 m_sumSet) (r_m_far : rr32 m_far) (r_m_queue : rr32 m_queue) (r_l1 : r32 l1) (r_l2 : r32 l2) (h : wp_X8_cuts Q m_found m_sumMany m_sumSet m_far m_queue l1 l2) : Ct l D cI cJ zt yX8_cuts cX8_cuts 7 (some .int) 3 0 0 [.ref hX8, .int (i32 l1), .int (i32 l2)] [(hX8, .inr (7, [.ref aX8_ups, .ref aX8_downs, .int (i32 m_many), .ref aX8_row, .int (i32 m_isSpent), .int (i32 m_found), .ref aX8_sumMany, .ref aX8_sumShares, .ref aX8_sumSet, .ref aX8_taken, .ref aX8_restUp, .ref aX8_restDown, .int (i32 m_fewest), .int (i32 m_wishes), .ref aX8_wished, .ref aX8_far, .ref aX8_queue, .int (i32 m_divided), .ref aX8_divisors, .ref aX8_least, .long (i64 m_pairOne), .long (i64 m_pairTwo), .long (i64 m_sumUp), .long (i64 m_sumDown)])), (aX8_sumMany, aI cI 2000 m_sumMany), (aX8_sumSet, aL cJ 2000 m_sumSet), (aX8_far, aI cI 2000 m_far), (aX8_queue, aI cI 2000 m_queue)] (po_X8_cuts cI cJ hX8 aX8_ups aX8_downs m_many aX8_row m_isSpent m_found aX8_sumMany aX8_sumShares aX8_sumSet aX8_taken aX8_restUp aX8_restDown m_fewest m_wishes aX8_wished aX8_far aX8_queue m_divided aX8_divisors aX8_least m_pairOne m_pairTwo m_sumUp m_sumDown m_sumMany m_sumSet Q) := by
  refine ct_of (by decide +kernel) (Nat.le_of_ble_eq_true rfl) (fun X hl hDD hcI hcJ hzt hR hF hnm g => ?_)
  subst hl; subst hDD; subst hcI; subst hcJ; subst hzt
  show Wat X 0 0 0 [(0, .ref hX8), (1, .int (i32 l1)), (2, .int (i32 l2))] [] [(hX8, .inr (7, [.ref aX8_ups, .ref aX8_downs, .int (i32 m_many), .ref aX8_row, .int (i32 m_isSpent), .int (i32 m_found), .ref aX8_sumMany, .ref aX8_sumShares, .ref aX8_sumSet, .ref aX8_taken, .ref aX8_restUp, .ref aX8_restDown, .int (i32 m_fewest), .int (i32 m_wishes), .ref aX8_wished, .ref aX8_far, .ref aX8_queue, .int (i32 m_divided), .ref aX8_divisors, .ref aX8_least, .long (i64 m_pairOne), .long (i64 m_pairTwo), .long (i64 m_sumUp), .long (i64 m_sumDown)])), (aX8_sumMany, aI X.cI 2000 m_sumMany), (aX8_sumSet, aL X.cJ 2000 m_sumSet), (aX8_far, aI X.cI 2000 m_far), (aX8_queue, aI X.cI 2000 m_queue)]
  replace g : Gd X cX8_cuts RX8 (some .int) 7 := g
  rw [wp_X8_cuts] at h
  refine q_iload_n g 1 1 rfl dX8_cuts_0 ?_
  refine q_if_lt g (7) 8 r_l1 (by decide) dX8_cuts_1 (fun b1 => ?_) (fun b1 => ?_)
  · replace h := h.1 b1
    refine q_lv (lv' := []) [] rfl ?_
    exact s_X8_cuts_8 g hR hX8 aX8_ups aX8_downs m_many aX8_row m_isSpent aX8_sumMany aX8_sumShares aX8_sumSet aX8_taken aX8_restUp aX8_restDown m_fewest m_wishes aX8_wished aX8_far aX8_queue m_divided aX8_divisors aX8_least m_pairOne m_pairTwo m_sumUp m_sumDown m_found m_sumMany m_sumSet r_m_found r_m_sumMany r_m_sumSet Q hF m_far m_queue r_m_far r_m_queue h
  replace h := h.2 b1
  refine q_iload_n g 2 2 rfl dX8_cuts_4 ?_
  refine q_if_ge g (5) 10 r_l2 (by decide) dX8_cuts_5 (fun b5 => ?_) (fun b5 => ?_)
  · replace h := h.1 b5
    refine q_aload_n g 0 0 rfl dX8_cuts_10 ?_
    refine q_get (C := RX8) (T := TX8) (N := 24) g 20 inX8 0 5 rfl rfl (by decide) wF_X8_20 rfl dX8_cuts_11 ?_
    refine q_if_lt g (19) 33 r_m_found (by decide) dX8_cuts_14 (fun b14 => ?_) (fun b14 => ?_)
    · replace h := h.1 b14
      refine q_lv (lv' := []) [] rfl ?_
      exact s_X8_cuts_33 g hR hX8 aX8_ups aX8_downs m_many aX8_row m_isSpent aX8_sumMany aX8_sumShares aX8_sumSet aX8_taken aX8_restUp aX8_restDown m_fewest m_wishes aX8_wished aX8_far aX8_queue m_divided aX8_divisors aX8_least m_pairOne m_pairTwo m_sumUp m_sumDown m_found m_sumMany m_sumSet r_m_found r_m_sumMany r_m_sumSet Q hF m_far m_queue r_m_far r_m_queue h
    replace h := h.2 b14
    refine q_iload_n g 1 1 rfl dX8_cuts_17 ?_
    refine q_aload_n g 0 0 rfl dX8_cuts_18 ?_
    refine q_get (C := RX8) (T := TX8) (N := 24) g 20 inX8 0 5 rfl rfl (by decide) wF_X8_20 rfl dX8_cuts_19 ?_
    refine q_icmp_ge g (11) 33 r_l1 r_m_found (by decide) dX8_cuts_22 (fun b22 => ?_) (fun b22 => ?_)
    · replace h := h.1 b22
      refine q_lv (lv' := []) [] rfl ?_
      exact s_X8_cuts_33 g hR hX8 aX8_ups aX8_downs m_many aX8_row m_isSpent aX8_sumMany aX8_sumShares aX8_sumSet aX8_taken aX8_restUp aX8_restDown m_fewest m_wishes aX8_wished aX8_far aX8_queue m_divided aX8_divisors aX8_least m_pairOne m_pairTwo m_sumUp m_sumDown m_found m_sumMany m_sumSet r_m_found r_m_sumMany r_m_sumSet Q hF m_far m_queue r_m_far r_m_queue h
    replace h := h.2 b22
    refine q_iload_n g 2 2 rfl dX8_cuts_25 ?_
    refine q_aload_n g 0 0 rfl dX8_cuts_26 ?_
    refine q_get (C := RX8) (T := TX8) (N := 24) g 20 inX8 0 5 rfl rfl (by decide) wF_X8_20 rfl dX8_cuts_27 ?_
    refine q_icmp_lt g (6) 36 r_l2 r_m_found (by decide) dX8_cuts_30 (fun b30 => ?_) (fun b30 => ?_)
    · replace h := h.1 b30
      refine q_iconst g (0) dX8_cuts_36 ?_
      refine q_istore_n (lv' := [(3, .int (i32 0)), (0, .ref hX8), (1, .int (i32 l1)), (2, .int (i32 l2))]) g 3 3 rfl (by decide) rfl dX8_cuts_37 ?_
      refine q_lv (lv' := [(0, .ref hX8), (1, .int (i32 l1)), (2, .int (i32 l2)), (3, .int (i32 0))]) [1, 2, 3, 0] rfl ?_
      obtain ⟨n0, h⟩ := h
      exact s_X8_cuts_38 g hR hX8 aX8_ups aX8_downs m_many aX8_row m_isSpent aX8_sumMany aX8_sumShares aX8_sumSet aX8_taken aX8_restUp aX8_restDown m_fewest m_wishes aX8_wished aX8_far aX8_queue m_divided aX8_divisors aX8_least m_pairOne m_pairTwo m_sumUp m_sumDown m_found m_sumMany m_sumSet r_m_found r_m_sumMany r_m_sumSet Q hF n0 m_far m_queue l1 l2 0 r_m_far r_m_queue r_l1 r_l2 (r32_lit _ (by decide)) h
    replace h := h.2 b30
    refine q_lv (lv' := []) [] rfl ?_
    exact s_X8_cuts_33 g hR hX8 aX8_ups aX8_downs m_many aX8_row m_isSpent aX8_sumMany aX8_sumShares aX8_sumSet aX8_taken aX8_restUp aX8_restDown m_fewest m_wishes aX8_wished aX8_far aX8_queue m_divided aX8_divisors aX8_least m_pairOne m_pairTwo m_sumUp m_sumDown m_found m_sumMany m_sumSet r_m_found r_m_sumMany r_m_sumSet Q hF m_far m_queue r_m_far r_m_queue h
  replace h := h.2 b5
  refine q_lv (lv' := []) [] rfl ?_
  exact s_X8_cuts_8 g hR hX8 aX8_ups aX8_downs m_many aX8_row m_isSpent aX8_sumMany aX8_sumShares aX8_sumSet aX8_taken aX8_restUp aX8_restDown m_fewest m_wishes aX8_wished aX8_far aX8_queue m_divided aX8_divisors aX8_least m_pairOne m_pairTwo m_sumUp m_sumDown m_found m_sumMany m_sumSet r_m_found r_m_sumMany r_m_sumSet Q hF m_far m_queue r_m_far r_m_queue h
theorem dX8_isPart_0 : decode cX8_isPart 0 = .ok (.aload_n 0, 1) := by decide +kernel
theorem dX8_isPart_1 : decode cX8_isPart 1 = .ok (.getfield 7, 3) := by decide +kernel
theorem dX8_isPart_4 : decode cX8_isPart 4 = .ok (.iload_n 1, 1) := by decide +kernel
theorem dX8_isPart_5 : decode cX8_isPart 5 = .ok (.iaload, 1) := by decide +kernel
theorem dX8_isPart_6 : decode cX8_isPart 6 = .ok (.ifCond .le 22, 3) := by decide +kernel
theorem dX8_isPart_9 : decode cX8_isPart 9 = .ok (.aload_n 0, 1) := by decide +kernel
theorem dX8_isPart_10 : decode cX8_isPart 10 = .ok (.getfield 7, 3) := by decide +kernel
theorem dX8_isPart_13 : decode cX8_isPart 13 = .ok (.iload_n 1, 1) := by decide +kernel
theorem dX8_isPart_14 : decode cX8_isPart 14 = .ok (.iaload, 1) := by decide +kernel
theorem dX8_isPart_15 : decode cX8_isPart 15 = .ok (.aload_n 0, 1) := by decide +kernel
theorem dX8_isPart_16 : decode cX8_isPart 16 = .ok (.getfield 13, 3) := by decide +kernel
theorem dX8_isPart_19 : decode cX8_isPart 19 = .ok (.iload_n 1, 1) := by decide +kernel
theorem dX8_isPart_20 : decode cX8_isPart 20 = .ok (.iaload, 1) := by decide +kernel
theorem dX8_isPart_21 : decode cX8_isPart 21 = .ok (.if_icmp .ge 7, 3) := by decide +kernel
theorem dX8_isPart_24 : decode cX8_isPart 24 = .ok (.iconst 1, 1) := by decide +kernel
theorem dX8_isPart_25 : decode cX8_isPart 25 = .ok (.goto 4, 3) := by decide +kernel
theorem dX8_isPart_28 : decode cX8_isPart 28 = .ok (.iconst 0, 1) := by decide +kernel
theorem dX8_isPart_29 : decode cX8_isPart 29 = .ok (.ireturn, 1) := by decide +kernel
abbrev po_X8_isPart (cI cJ : ClassId) (hX8 : Nat) (aX8_ups : Nat) (aX8_downs : Nat) (m_many : Int) (aX8_row : Nat) (m_isSpent : Int) (m_found : Int) (aX8_sumMany : Nat) (aX8_sumShares : Nat) (aX8_sumSet : Nat) (aX8_taken : Nat) (aX8_restUp : Nat) (aX8_restDown : Nat) (m_fewest : Int) (m_wishes : Int) (aX8_wished : Nat) (aX8_far : Nat) (aX8_queue : Nat) (m_divided : Int) (aX8_divisors : Nat) (aX8_least : Nat) (m_pairOne : Int) (m_pairTwo : Int) (m_sumUp : Int) (m_sumDown : Int) (m_ups : Int → Int) (m_downs : Int → Int) (Q : Int → Prop) : Option Value → va_W → Prop := fun rv w1 => ∃ (r0 : Int), rv = some (.int (i32 r0)) ∧ w1 = [(hX8, .inr (7, [.ref aX8_ups, .ref aX8_downs, .int (i32 m_many), .ref aX8_row, .int (i32 m_isSpent), .int (i32 m_found), .ref aX8_sumMany, .ref aX8_sumShares, .ref aX8_sumSet, .ref aX8_taken, .ref aX8_restUp, .ref aX8_restDown, .int (i32 m_fewest), .int (i32 m_wishes), .ref aX8_wished, .ref aX8_far, .ref aX8_queue, .int (i32 m_divided), .ref aX8_divisors, .ref aX8_least, .long (i64 m_pairOne), .long (i64 m_pairTwo), .long (i64 m_sumUp), .long (i64 m_sumDown)])), (aX8_ups, aI cI 8 m_ups), (aX8_downs, aI cI 8 m_downs)] ∧ r32 r0 ∧ Q r0
def wp_X8_isPart_29 (Q : Int → Prop) (m_ups : Int → Int) (m_downs : Int → Int) (k0 : Int) : Prop := ((k0 = 0 ∨ k0 = 1) ∧ Q k0)
set_option maxHeartbeats 4000000 in
set_option maxRecDepth 100000 in
theorem s_X8_isPart_29 {X : Cx} (g : Gd X cX8_isPart RX8 (some .boolean) 2) (hR : X.R = rmL 1 0 0) (hX8 : Nat) (aX8_ups : Nat) (aX8_downs : Nat) (m_many : Int) (aX8_row : Nat) (m_isSpent : Int) (m_found : Int) (aX8_sumMany : Nat) (aX8_sumShares : Nat) (aX8_sumSet : Nat) (aX8_taken : Nat) (aX8_restUp : Nat) (aX8_restDown : Nat) (m_fewest : Int) (m_wishes : Int) (aX8_wished : Nat) (aX8_far : Nat) (aX8_queue : Nat) (m_divided : Int) (aX8_divisors : Nat) (aX8_least : Nat) (m_pairOne : Int) (m_pairTwo : Int) (m_sumUp : Int) (m_sumDown : Int) (m_ups : Int → Int) (m_downs : Int → Int) (r_m_ups : rr32 m_ups) (r_m_downs : rr32 m_downs) (Q : Int → Prop) (hF : FQ X 0 0 (po_X8_isPart X.cI X.cJ hX8 aX8_ups aX8_downs m_many aX8_row m_isSpent m_found aX8_sumMany aX8_sumShares aX8_sumSet aX8_taken aX8_restUp aX8_restDown m_fewest m_wishes aX8_wished aX8_far aX8_queue m_divided aX8_divisors aX8_least m_pairOne m_pairTwo m_sumUp m_sumDown m_ups m_downs Q)) : ∀ (k0 : Int), r32 k0 → wp_X8_isPart_29 Q m_ups m_downs k0 → Wat X 0 0 29 [] [.int (i32 k0)] [(hX8, .inr (7, [.ref aX8_ups, .ref aX8_downs, .int (i32 m_many), .ref aX8_row, .int (i32 m_isSpent), .int (i32 m_found), .ref aX8_sumMany, .ref aX8_sumShares, .ref aX8_sumSet, .ref aX8_taken, .ref aX8_restUp, .ref aX8_restDown, .int (i32 m_fewest), .int (i32 m_wishes), .ref aX8_wished, .ref aX8_far, .ref aX8_queue, .int (i32 m_divided), .ref aX8_divisors, .ref aX8_least, .long (i64 m_pairOne), .long (i64 m_pairTwo), .long (i64 m_sumUp), .long (i64 m_sumDown)])), (aX8_ups, aI X.cI 8 m_ups), (aX8_downs, aI X.cI 8 m_downs)] := by
  intro k0 r_k0 h
  rw [wp_X8_isPart_29] at h
  obtain ⟨z29, h⟩ := h
  exact q_zret g hF z29 ⟨k0, rfl, rfl, r_k0, h⟩ dX8_isPart_29
def wp_X8_isPart_28 (Q : Int → Prop) (m_ups : Int → Int) (m_downs : Int → Int) : Prop := wp_X8_isPart_29 Q m_ups m_downs 0
set_option maxHeartbeats 4000000 in
set_option maxRecDepth 100000 in
theorem s_X8_isPart_28 {X : Cx} (g : Gd X cX8_isPart RX8 (some .boolean) 2) (hR : X.R = rmL 1 0 0) (hX8 : Nat) (aX8_ups : Nat) (aX8_downs : Nat) (m_many : Int) (aX8_row : Nat) (m_isSpent : Int) (m_found : Int) (aX8_sumMany : Nat) (aX8_sumShares : Nat) (aX8_sumSet : Nat) (aX8_taken : Nat) (aX8_restUp : Nat) (aX8_restDown : Nat) (m_fewest : Int) (m_wishes : Int) (aX8_wished : Nat) (aX8_far : Nat) (aX8_queue : Nat) (m_divided : Int) (aX8_divisors : Nat) (aX8_least : Nat) (m_pairOne : Int) (m_pairTwo : Int) (m_sumUp : Int) (m_sumDown : Int) (m_ups : Int → Int) (m_downs : Int → Int) (r_m_ups : rr32 m_ups) (r_m_downs : rr32 m_downs) (Q : Int → Prop) (hF : FQ X 0 0 (po_X8_isPart X.cI X.cJ hX8 aX8_ups aX8_downs m_many aX8_row m_isSpent m_found aX8_sumMany aX8_sumShares aX8_sumSet aX8_taken aX8_restUp aX8_restDown m_fewest m_wishes aX8_wished aX8_far aX8_queue m_divided aX8_divisors aX8_least m_pairOne m_pairTwo m_sumUp m_sumDown m_ups m_downs Q)) : wp_X8_isPart_28 Q m_ups m_downs → Wat X 0 0 28 [] [] [(hX8, .inr (7, [.ref aX8_ups, .ref aX8_downs, .int (i32 m_many), .ref aX8_row, .int (i32 m_isSpent), .int (i32 m_found), .ref aX8_sumMany, .ref aX8_sumShares, .ref aX8_sumSet, .ref aX8_taken, .ref aX8_restUp, .ref aX8_restDown, .int (i32 m_fewest), .int (i32 m_wishes), .ref aX8_wished, .ref aX8_far, .ref aX8_queue, .int (i32 m_divided), .ref aX8_divisors, .ref aX8_least, .long (i64 m_pairOne), .long (i64 m_pairTwo), .long (i64 m_sumUp), .long (i64 m_sumDown)])), (aX8_ups, aI X.cI 8 m_ups), (aX8_downs, aI X.cI 8 m_downs)] := by
  intro h
  rw [wp_X8_isPart_28] at h
  refine q_iconst g (0) dX8_isPart_28 ?_
  exact s_X8_isPart_29 g hR hX8 aX8_ups aX8_downs m_many aX8_row m_isSpent m_found aX8_sumMany aX8_sumShares aX8_sumSet aX8_taken aX8_restUp aX8_restDown m_fewest m_wishes aX8_wished aX8_far aX8_queue m_divided aX8_divisors aX8_least m_pairOne m_pairTwo m_sumUp m_sumDown m_ups m_downs r_m_ups r_m_downs Q hF 0 (r32_lit _ (by decide)) h
def wp_X8_isPart (Q : Int → Prop) (m_ups : Int → Int) (m_downs : Int → Int) (l1 : Int) : Prop := (0 ≤ l1 ∧ l1 < 8 ∧ (((m_ups l1) ≤ 0 → wp_X8_isPart_28 Q m_ups m_downs) ∧
  (¬ ((m_ups l1) ≤ 0) → (0 ≤ l1 ∧ l1 < 8 ∧ 0 ≤ l1 ∧ l1 < 8 ∧ (((m_downs l1) ≤ (m_ups l1) → wp_X8_isPart_28 Q m_ups m_downs) ∧
  (¬ ((m_downs l1) ≤ (m_ups l1)) → wp_X8_isPart_29 Q m_ups m_downs 1))))))
set_option maxHeartbeats 4000000 in
set_option maxRecDepth 100000 in
theorem c_X8_isPart (l : Launch) (D : va_G) (cI cJ : ClassId) (zt : Nat) (hX8 : Nat) (aX8_ups : Nat) (aX8_downs : Nat) (m_many : Int) (aX8_row : Nat) (m_isSpent : Int) (m_found : Int) (aX8_sumMany : Nat) (aX8_sumShares : Nat) (aX8_sumSet : Nat) (aX8_taken : Nat) (aX8_restUp : Nat) (aX8_restDown : Nat) (m_fewest : Int) (m_wishes : Int) (aX8_wished : Nat) (aX8_far : Nat) (aX8_queue : Nat) (m_divided : Int) (aX8_divisors : Nat) (aX8_least : Nat) (m_pairOne : Int) (m_pairTwo : Int) (m_sumUp : Int) (m_sumDown : Int) (m_ups : Int → Int) (m_downs : Int → Int) (l1 : Int) (Q : Int → Prop) (r_m_ups : rr32 m_ups) (r_m_downs : rr32 m_downs) (r_l1 : r32 l1) (h : wp_X8_isPart Q m_ups m_downs l1) : Ct l D cI cJ zt yX8_isPart cX8_isPart 2 (some .boolean) 1 0 0 [.ref hX8, .int (i32 l1)] [(hX8, .inr (7, [.ref aX8_ups, .ref aX8_downs, .int (i32 m_many), .ref aX8_row, .int (i32 m_isSpent), .int (i32 m_found), .ref aX8_sumMany, .ref aX8_sumShares, .ref aX8_sumSet, .ref aX8_taken, .ref aX8_restUp, .ref aX8_restDown, .int (i32 m_fewest), .int (i32 m_wishes), .ref aX8_wished, .ref aX8_far, .ref aX8_queue, .int (i32 m_divided), .ref aX8_divisors, .ref aX8_least, .long (i64 m_pairOne), .long (i64 m_pairTwo), .long (i64 m_sumUp), .long (i64 m_sumDown)])), (aX8_ups, aI cI 8 m_ups), (aX8_downs, aI cI 8 m_downs)] (po_X8_isPart cI cJ hX8 aX8_ups aX8_downs m_many aX8_row m_isSpent m_found aX8_sumMany aX8_sumShares aX8_sumSet aX8_taken aX8_restUp aX8_restDown m_fewest m_wishes aX8_wished aX8_far aX8_queue m_divided aX8_divisors aX8_least m_pairOne m_pairTwo m_sumUp m_sumDown m_ups m_downs Q) := by
  refine ct_of (by decide +kernel) (Nat.le_of_ble_eq_true rfl) (fun X hl hDD hcI hcJ hzt hR hF hnm g => ?_)
  subst hl; subst hDD; subst hcI; subst hcJ; subst hzt
  show Wat X 0 0 0 [(0, .ref hX8), (1, .int (i32 l1))] [] [(hX8, .inr (7, [.ref aX8_ups, .ref aX8_downs, .int (i32 m_many), .ref aX8_row, .int (i32 m_isSpent), .int (i32 m_found), .ref aX8_sumMany, .ref aX8_sumShares, .ref aX8_sumSet, .ref aX8_taken, .ref aX8_restUp, .ref aX8_restDown, .int (i32 m_fewest), .int (i32 m_wishes), .ref aX8_wished, .ref aX8_far, .ref aX8_queue, .int (i32 m_divided), .ref aX8_divisors, .ref aX8_least, .long (i64 m_pairOne), .long (i64 m_pairTwo), .long (i64 m_sumUp), .long (i64 m_sumDown)])), (aX8_ups, aI X.cI 8 m_ups), (aX8_downs, aI X.cI 8 m_downs)]
  replace g : Gd X cX8_isPart RX8 (some .boolean) 2 := g
  rw [wp_X8_isPart] at h
  refine q_aload_n g 0 0 rfl dX8_isPart_0 ?_
  refine q_get (C := RX8) (T := TX8) (N := 24) g 7 inX8 0 0 rfl rfl (by decide) wF_X8_7 rfl dX8_isPart_1 ?_
  refine q_iload_n g 1 1 rfl dX8_isPart_4 ?_
  obtain ⟨c5, h⟩ := h
  obtain ⟨e5, h⟩ := h
  refine q_iald g 1 rfl c5 e5 (by decide) dX8_isPart_5 ?_
  refine q_if_le g (22) 28 (r_m_ups _) (by decide) dX8_isPart_6 (fun b6 => ?_) (fun b6 => ?_)
  · replace h := h.1 b6
    refine q_lv (lv' := []) [] rfl ?_
    exact s_X8_isPart_28 g hR hX8 aX8_ups aX8_downs m_many aX8_row m_isSpent m_found aX8_sumMany aX8_sumShares aX8_sumSet aX8_taken aX8_restUp aX8_restDown m_fewest m_wishes aX8_wished aX8_far aX8_queue m_divided aX8_divisors aX8_least m_pairOne m_pairTwo m_sumUp m_sumDown m_ups m_downs r_m_ups r_m_downs Q hF h
  replace h := h.2 b6
  refine q_aload_n g 0 0 rfl dX8_isPart_9 ?_
  refine q_get (C := RX8) (T := TX8) (N := 24) g 7 inX8 0 0 rfl rfl (by decide) wF_X8_7 rfl dX8_isPart_10 ?_
  refine q_iload_n g 1 1 rfl dX8_isPart_13 ?_
  obtain ⟨c14, h⟩ := h
  obtain ⟨e14, h⟩ := h
  refine q_iald g 1 rfl c14 e14 (by decide) dX8_isPart_14 ?_
  refine q_aload_n g 0 0 rfl dX8_isPart_15 ?_
  refine q_get (C := RX8) (T := TX8) (N := 24) g 13 inX8 0 1 rfl rfl (by decide) wF_X8_13 rfl dX8_isPart_16 ?_
  refine q_iload_n g 1 1 rfl dX8_isPart_19 ?_
  obtain ⟨c20, h⟩ := h
  obtain ⟨e20, h⟩ := h
  refine q_iald g 2 rfl c20 e20 (by decide) dX8_isPart_20 ?_
  refine q_icmp_ge g (7) 28 (r_m_ups _) (r_m_downs _) (by decide) dX8_isPart_21 (fun b21 => ?_) (fun b21 => ?_)
  · replace h := h.1 b21
    refine q_lv (lv' := []) [] rfl ?_
    exact s_X8_isPart_28 g hR hX8 aX8_ups aX8_downs m_many aX8_row m_isSpent m_found aX8_sumMany aX8_sumShares aX8_sumSet aX8_taken aX8_restUp aX8_restDown m_fewest m_wishes aX8_wished aX8_far aX8_queue m_divided aX8_divisors aX8_least m_pairOne m_pairTwo m_sumUp m_sumDown m_ups m_downs r_m_ups r_m_downs Q hF h
  replace h := h.2 b21
  refine q_iconst g (1) dX8_isPart_24 ?_
  refine q_goto g (4) 29 (by decide) dX8_isPart_25 ?_
  refine q_lv (lv' := []) [] rfl ?_
  exact s_X8_isPart_29 g hR hX8 aX8_ups aX8_downs m_many aX8_row m_isSpent m_found aX8_sumMany aX8_sumShares aX8_sumSet aX8_taken aX8_restUp aX8_restDown m_fewest m_wishes aX8_wished aX8_far aX8_queue m_divided aX8_divisors aX8_least m_pairOne m_pairTwo m_sumUp m_sumDown m_ups m_downs r_m_ups r_m_downs Q hF 1 (r32_lit _ (by decide)) h
theorem dX8_findDivisors_0 : decode cX8_findDivisors 0 = .ok (.aload_n 0, 1) := by decide +kernel
theorem dX8_findDivisors_1 : decode cX8_findDivisors 1 = .ok (.iconst 0, 1) := by decide +kernel
theorem dX8_findDivisors_2 : decode cX8_findDivisors 2 = .ok (.putfield 180, 3) := by decide +kernel
theorem dX8_findDivisors_5 : decode cX8_findDivisors 5 = .ok (.iconst 1, 1) := by decide +kernel
theorem dX8_findDivisors_6 : decode cX8_findDivisors 6 = .ok (.istore_n 2, 1) := by decide +kernel
theorem dX8_findDivisors_7 : decode cX8_findDivisors 7 = .ok (.iload_n 2, 1) := by decide +kernel
theorem dX8_findDivisors_8 : decode cX8_findDivisors 8 = .ok (.iload_n 1, 1) := by decide +kernel
theorem dX8_findDivisors_9 : decode cX8_findDivisors 9 = .ok (.if_icmp .gt 35, 3) := by decide +kernel
theorem dX8_findDivisors_12 : decode cX8_findDivisors 12 = .ok (.iload_n 1, 1) := by decide +kernel
theorem dX8_findDivisors_13 : decode cX8_findDivisors 13 = .ok (.iload_n 2, 1) := by decide +kernel
theorem dX8_findDivisors_14 : decode cX8_findDivisors 14 = .ok (.irem, 1) := by decide +kernel
theorem dX8_findDivisors_15 : decode cX8_findDivisors 15 = .ok (.ifCond .ne 23, 3) := by decide +kernel
theorem dX8_findDivisors_18 : decode cX8_findDivisors 18 = .ok (.aload_n 0, 1) := by decide +kernel
theorem dX8_findDivisors_19 : decode cX8_findDivisors 19 = .ok (.getfield 51, 3) := by decide +kernel
theorem dX8_findDivisors_22 : decode cX8_findDivisors 22 = .ok (.aload_n 0, 1) := by decide +kernel
theorem dX8_findDivisors_23 : decode cX8_findDivisors 23 = .ok (.getfield 180, 3) := by decide +kernel
theorem dX8_findDivisors_26 : decode cX8_findDivisors 26 = .ok (.iload_n 2, 1) := by decide +kernel
theorem dX8_findDivisors_27 : decode cX8_findDivisors 27 = .ok (.iastore, 1) := by decide +kernel
theorem dX8_findDivisors_28 : decode cX8_findDivisors 28 = .ok (.aload_n 0, 1) := by decide +kernel
theorem dX8_findDivisors_29 : decode cX8_findDivisors 29 = .ok (.dup, 1) := by decide +kernel
theorem dX8_findDivisors_30 : decode cX8_findDivisors 30 = .ok (.getfield 180, 3) := by decide +kernel
theorem dX8_findDivisors_33 : decode cX8_findDivisors 33 = .ok (.iconst 1, 1) := by decide +kernel
theorem dX8_findDivisors_34 : decode cX8_findDivisors 34 = .ok (.iadd, 1) := by decide +kernel
theorem dX8_findDivisors_35 : decode cX8_findDivisors 35 = .ok (.putfield 180, 3) := by decide +kernel
theorem dX8_findDivisors_38 : decode cX8_findDivisors 38 = .ok (.iinc 2 1, 3) := by decide +kernel
theorem dX8_findDivisors_41 : decode cX8_findDivisors 41 = .ok (.goto (-34), 3) := by decide +kernel
theorem dX8_findDivisors_44 : decode cX8_findDivisors 44 = .ok (.return_, 1) := by decide +kernel
abbrev po_X8_findDivisors (cI cJ : ClassId) (hX8 : Nat) (aX8_ups : Nat) (aX8_downs : Nat) (m_many : Int) (aX8_row : Nat) (m_isSpent : Int) (m_found : Int) (aX8_sumMany : Nat) (aX8_sumShares : Nat) (aX8_sumSet : Nat) (aX8_taken : Nat) (aX8_restUp : Nat) (aX8_restDown : Nat) (m_fewest : Int) (m_wishes : Int) (aX8_wished : Nat) (aX8_far : Nat) (aX8_queue : Nat) (aX8_divisors : Nat) (aX8_least : Nat) (m_pairOne : Int) (m_pairTwo : Int) (m_sumUp : Int) (m_sumDown : Int) (Q : Int → (Int → Int) → Prop) : Option Value → va_W → Prop := fun rv w1 => ∃ (m_divided : Int) (m_divisors : Int → Int), rv = none ∧ w1 = [(hX8, .inr (7, [.ref aX8_ups, .ref aX8_downs, .int (i32 m_many), .ref aX8_row, .int (i32 m_isSpent), .int (i32 m_found), .ref aX8_sumMany, .ref aX8_sumShares, .ref aX8_sumSet, .ref aX8_taken, .ref aX8_restUp, .ref aX8_restDown, .int (i32 m_fewest), .int (i32 m_wishes), .ref aX8_wished, .ref aX8_far, .ref aX8_queue, .int (i32 m_divided), .ref aX8_divisors, .ref aX8_least, .long (i64 m_pairOne), .long (i64 m_pairTwo), .long (i64 m_sumUp), .long (i64 m_sumDown)])), (aX8_divisors, aI cI 60 m_divisors)] ∧ r32 m_divided ∧ rr32 m_divisors ∧ Q m_divided m_divisors
def wp_X8_findDivisors_38 (Q : Int → (Int → Int) → Prop) (K_7 : Int → (Int → Int) → Int → Int → Prop) (m_divided : Int) (m_divisors : Int → Int) (l1 : Int) (l2 : Int) : Prop := (r32 (l2 + 1) ∧ K_7 m_divided m_divisors l1 (l2 + 1))
set_option maxHeartbeats 4000000 in
set_option maxRecDepth 100000 in
theorem s_X8_findDivisors_38 {X : Cx} (g : Gd X cX8_findDivisors RX8 none 3) (hR : X.R = rmL 1 0 0) (hX8 : Nat) (aX8_ups : Nat) (aX8_downs : Nat) (m_many : Int) (aX8_row : Nat) (m_isSpent : Int) (m_found : Int) (aX8_sumMany : Nat) (aX8_sumShares : Nat) (aX8_sumSet : Nat) (aX8_taken : Nat) (aX8_restUp : Nat) (aX8_restDown : Nat) (m_fewest : Int) (m_wishes : Int) (aX8_wished : Nat) (aX8_far : Nat) (aX8_queue : Nat) (aX8_divisors : Nat) (aX8_least : Nat) (m_pairOne : Int) (m_pairTwo : Int) (m_sumUp : Int) (m_sumDown : Int) (Q : Int → (Int → Int) → Prop) (hF : FQ X 0 0 (po_X8_findDivisors X.cI X.cJ hX8 aX8_ups aX8_downs m_many aX8_row m_isSpent m_found aX8_sumMany aX8_sumShares aX8_sumSet aX8_taken aX8_restUp aX8_restDown m_fewest m_wishes aX8_wished aX8_far aX8_queue aX8_divisors aX8_least m_pairOne m_pairTwo m_sumUp m_sumDown Q)) (K_7 : Int → (Int → Int) → Int → Int → Prop) (hK_7 : ∀ (m_divided : Int) (m_divisors : Int → Int) (l1 : Int) (l2 : Int), r32 m_divided → rr32 m_divisors → r32 l1 → r32 l2 → K_7 m_divided m_divisors l1 l2 → Wat X 0 0 7 [(0, .ref hX8), (1, .int (i32 l1)), (2, .int (i32 l2))] [] [(hX8, .inr (7, [.ref aX8_ups, .ref aX8_downs, .int (i32 m_many), .ref aX8_row, .int (i32 m_isSpent), .int (i32 m_found), .ref aX8_sumMany, .ref aX8_sumShares, .ref aX8_sumSet, .ref aX8_taken, .ref aX8_restUp, .ref aX8_restDown, .int (i32 m_fewest), .int (i32 m_wishes), .ref aX8_wished, .ref aX8_far, .ref aX8_queue, .int (i32 m_divided), .ref aX8_divisors, .ref aX8_least, .long (i64 m_pairOne), .long (i64 m_pairTwo), .long (i64 m_sumUp), .long (i64 m_sumDown)])), (aX8_divisors, aI X.cI 60 m_divisors)]) : ∀ (m_divided : Int) (m_divisors : Int → Int) (l1 : Int) (l2 : Int), r32 m_divided → rr32 m_divisors → r32 l1 → r32 l2 → wp_X8_findDivisors_38 Q K_7 m_divided m_divisors l1 l2 → Wat X 0 0 38 [(0, .ref hX8), (1, .int (i32 l1)), (2, .int (i32 l2))] [] [(hX8, .inr (7, [.ref aX8_ups, .ref aX8_downs, .int (i32 m_many), .ref aX8_row, .int (i32 m_isSpent), .int (i32 m_found), .ref aX8_sumMany, .ref aX8_sumShares, .ref aX8_sumSet, .ref aX8_taken, .ref aX8_restUp, .ref aX8_restDown, .int (i32 m_fewest), .int (i32 m_wishes), .ref aX8_wished, .ref aX8_far, .ref aX8_queue, .int (i32 m_divided), .ref aX8_divisors, .ref aX8_least, .long (i64 m_pairOne), .long (i64 m_pairTwo), .long (i64 m_sumUp), .long (i64 m_sumDown)])), (aX8_divisors, aI X.cI 60 m_divisors)] := by
  intro m_divided m_divisors l1 l2 r_m_divided r_m_divisors r_l1 r_l2 h
  rw [wp_X8_findDivisors_38] at h
  obtain ⟨c38, h⟩ := h
  refine q_iinc (lv' := [(2, .int (i32 (l2 + 1))), (0, .ref hX8), (1, .int (i32 l1))]) g 2 2 1 (by decide) rfl rfl dX8_findDivisors_38 ?_
  refine q_goto g (-34) 7 (by decide) dX8_findDivisors_41 ?_
  refine q_lv (lv' := [(0, .ref hX8), (1, .int (i32 l1)), (2, .int (i32 (l2 + 1)))]) [1, 2, 0] rfl ?_
  exact hK_7 m_divided m_divisors l1 (l2 + 1) r_m_divided r_m_divisors r_l1 c38 h
def wp_X8_findDivisors_7 (Q : Int → (Int → Int) → Prop) : Nat → Int → (Int → Int) → Int → Int → Prop
  | 0, _, _, _, _ => False
  | n + 1, m_divided, m_divisors, l1, l2 => ((l1 < l2 → Q m_divided m_divisors) ∧
  (¬ (l1 < l2) → (0 < l2 ∧ ((¬ (l1.tmod l2) = 0 → wp_X8_findDivisors_38 Q (wp_X8_findDivisors_7 Q n) m_divided m_divisors l1 l2) ∧
  ((l1.tmod l2) = 0 → (0 ≤ m_divided ∧ m_divided < 60 ∧ r32 (m_divided + 1) ∧ ∀ x35 : Int, x35 = (m_divided + 1) → wp_X8_findDivisors_38 Q (wp_X8_findDivisors_7 Q n) x35 (ups m_divisors m_divided l2) l1 l2))))))
set_option maxHeartbeats 4000000 in
set_option maxRecDepth 100000 in
theorem s_X8_findDivisors_7 {X : Cx} (g : Gd X cX8_findDivisors RX8 none 3) (hR : X.R = rmL 1 0 0) (hX8 : Nat) (aX8_ups : Nat) (aX8_downs : Nat) (m_many : Int) (aX8_row : Nat) (m_isSpent : Int) (m_found : Int) (aX8_sumMany : Nat) (aX8_sumShares : Nat) (aX8_sumSet : Nat) (aX8_taken : Nat) (aX8_restUp : Nat) (aX8_restDown : Nat) (m_fewest : Int) (m_wishes : Int) (aX8_wished : Nat) (aX8_far : Nat) (aX8_queue : Nat) (aX8_divisors : Nat) (aX8_least : Nat) (m_pairOne : Int) (m_pairTwo : Int) (m_sumUp : Int) (m_sumDown : Int) (Q : Int → (Int → Int) → Prop) (hF : FQ X 0 0 (po_X8_findDivisors X.cI X.cJ hX8 aX8_ups aX8_downs m_many aX8_row m_isSpent m_found aX8_sumMany aX8_sumShares aX8_sumSet aX8_taken aX8_restUp aX8_restDown m_fewest m_wishes aX8_wished aX8_far aX8_queue aX8_divisors aX8_least m_pairOne m_pairTwo m_sumUp m_sumDown Q)) : ∀ (n : Nat) (m_divided : Int) (m_divisors : Int → Int) (l1 : Int) (l2 : Int), r32 m_divided → rr32 m_divisors → r32 l1 → r32 l2 → wp_X8_findDivisors_7 Q n m_divided m_divisors l1 l2 → Wat X 0 0 7 [(0, .ref hX8), (1, .int (i32 l1)), (2, .int (i32 l2))] [] [(hX8, .inr (7, [.ref aX8_ups, .ref aX8_downs, .int (i32 m_many), .ref aX8_row, .int (i32 m_isSpent), .int (i32 m_found), .ref aX8_sumMany, .ref aX8_sumShares, .ref aX8_sumSet, .ref aX8_taken, .ref aX8_restUp, .ref aX8_restDown, .int (i32 m_fewest), .int (i32 m_wishes), .ref aX8_wished, .ref aX8_far, .ref aX8_queue, .int (i32 m_divided), .ref aX8_divisors, .ref aX8_least, .long (i64 m_pairOne), .long (i64 m_pairTwo), .long (i64 m_sumUp), .long (i64 m_sumDown)])), (aX8_divisors, aI X.cI 60 m_divisors)] := by
  intro n
  induction n with
  | zero => intro m_divided m_divisors l1 l2 r_m_divided r_m_divisors r_l1 r_l2 h; exact False.elim h
  | succ n ih =>
    intro m_divided m_divisors l1 l2 r_m_divided r_m_divisors r_l1 r_l2 h
    rw [wp_X8_findDivisors_7] at h
    refine q_iload_n g 2 2 rfl dX8_findDivisors_7 ?_
    refine q_iload_n g 1 1 rfl dX8_findDivisors_8 ?_
    refine q_icmp_gt g (35) 44 r_l2 r_l1 (by decide) dX8_findDivisors_9 (fun b9 => ?_) (fun b9 => ?_)
    · replace h := h.1 b9
      exact q_vret g hF ⟨m_divided, m_divisors, rfl, rfl, r_m_divided, r_m_divisors, h⟩ dX8_findDivisors_44
    replace h := h.2 b9
    refine q_iload_n g 1 1 rfl dX8_findDivisors_12 ?_
    refine q_iload_n g 2 2 rfl dX8_findDivisors_13 ?_
    obtain ⟨c14, h⟩ := h
    refine q_irem g r_l1 r_l2 (ne_of_pos c14) dX8_findDivisors_14 ?_
    refine q_if_ne g (23) 38 (r32_tmod r_l1 r_l2 (ne_of_pos c14)) (by decide) dX8_findDivisors_15 (fun b15 => ?_) (fun b15 => ?_)
    · replace h := h.1 b15
      exact s_X8_findDivisors_38 g hR hX8 aX8_ups aX8_downs m_many aX8_row m_isSpent m_found aX8_sumMany aX8_sumShares aX8_sumSet aX8_taken aX8_restUp aX8_restDown m_fewest m_wishes aX8_wished aX8_far aX8_queue aX8_divisors aX8_least m_pairOne m_pairTwo m_sumUp m_sumDown Q hF (wp_X8_findDivisors_7 Q n) (fun v0 v1 v2 v3 w0 w1 w2 w3 hh => ih v0 v1 v2 v3 w0 w1 w2 w3 hh) m_divided m_divisors l1 l2 r_m_divided r_m_divisors r_l1 r_l2 h
    replace h := h.2 b15
    refine q_aload_n g 0 0 rfl dX8_findDivisors_18 ?_
    refine q_get (C := RX8) (T := TX8) (N := 24) g 51 inX8 0 18 rfl rfl (by decide) wF_X8_51 rfl dX8_findDivisors_19 ?_
    refine q_aload_n g 0 0 rfl dX8_findDivisors_22 ?_
    refine q_get (C := RX8) (T := TX8) (N := 24) g 180 inX8 0 17 rfl rfl (by decide) wF_X8_180 rfl dX8_findDivisors_23 ?_
    refine q_iload_n g 2 2 rfl dX8_findDivisors_26 ?_
    obtain ⟨c27, h⟩ := h
    obtain ⟨e27, h⟩ := h
    refine q_iast (ws' := [(hX8, .inr (7, [.ref aX8_ups, .ref aX8_downs, .int (i32 m_many), .ref aX8_row, .int (i32 m_isSpent), .int (i32 m_found), .ref aX8_sumMany, .ref aX8_sumShares, .ref aX8_sumSet, .ref aX8_taken, .ref aX8_restUp, .ref aX8_restDown, .int (i32 m_fewest), .int (i32 m_wishes), .ref aX8_wished, .ref aX8_far, .ref aX8_queue, .int (i32 m_divided), .ref aX8_divisors, .ref aX8_least, .long (i64 m_pairOne), .long (i64 m_pairTwo), .long (i64 m_sumUp), .long (i64 m_sumDown)])), (aX8_divisors, aI X.cI 60 (ups m_divisors m_divided l2))]) g 1 rfl c27 e27 (by decide) rfl dX8_findDivisors_27 ?_
    refine q_aload_n g 0 0 rfl dX8_findDivisors_28 ?_
    refine q_dup g rfl dX8_findDivisors_29 ?_
    refine q_get (C := RX8) (T := TX8) (N := 24) g 180 inX8 0 17 rfl rfl (by decide) wF_X8_180 rfl dX8_findDivisors_30 ?_
    refine q_iconst g (1) dX8_findDivisors_33 ?_
    obtain ⟨c34, h⟩ := h
    refine q_iadd g dX8_findDivisors_34 ?_
    refine q_topi c34 (fun x35 ex35 rx35 => ?_)
    replace h := h x35 ex35
    refine q_put (C := RX8) (T := TX8) (N := 24) (ty := .int) (ws' := [(hX8, .inr (7, [.ref aX8_ups, .ref aX8_downs, .int (i32 m_many), .ref aX8_row, .int (i32 m_isSpent), .int (i32 m_found), .ref aX8_sumMany, .ref aX8_sumShares, .ref aX8_sumSet, .ref aX8_taken, .ref aX8_restUp, .ref aX8_restDown, .int (i32 m_fewest), .int (i32 m_wishes), .ref aX8_wished, .ref aX8_far, .ref aX8_queue, .int (i32 x35), .ref aX8_divisors, .ref aX8_least, .long (i64 m_pairOne), .long (i64 m_pairTwo), .long (i64 m_sumUp), .long (i64 m_sumDown)])), (aX8_divisors, aI X.cI 60 (ups m_divisors m_divided l2))]) g 180 inX8 tyX8_ok nmX8 0 17 rfl rfl (by decide) wF_X8_180 rfl rfl rfl rfl (Nat.le_of_ble_eq_true rfl) rfl dX8_findDivisors_35 ?_
    exact s_X8_findDivisors_38 g hR hX8 aX8_ups aX8_downs m_many aX8_row m_isSpent m_found aX8_sumMany aX8_sumShares aX8_sumSet aX8_taken aX8_restUp aX8_restDown m_fewest m_wishes aX8_wished aX8_far aX8_queue aX8_divisors aX8_least m_pairOne m_pairTwo m_sumUp m_sumDown Q hF (wp_X8_findDivisors_7 Q n) (fun v0 v1 v2 v3 w0 w1 w2 w3 hh => ih v0 v1 v2 v3 w0 w1 w2 w3 hh) x35 (ups m_divisors m_divided l2) l1 l2 rx35 (rr32_u r_m_divisors r_l2) r_l1 r_l2 h
def wp_X8_findDivisors (Q : Int → (Int → Int) → Prop) (m_divided : Int) (m_divisors : Int → Int) (l1 : Int) : Prop := (∃ n0 : Nat, wp_X8_findDivisors_7 Q n0 0 m_divisors l1 1)
set_option maxHeartbeats 4000000 in
set_option maxRecDepth 100000 in
theorem c_X8_findDivisors (l : Launch) (D : va_G) (cI cJ : ClassId) (zt : Nat) (hX8 : Nat) (aX8_ups : Nat) (aX8_downs : Nat) (m_many : Int) (aX8_row : Nat) (m_isSpent : Int) (m_found : Int) (aX8_sumMany : Nat) (aX8_sumShares : Nat) (aX8_sumSet : Nat) (aX8_taken : Nat) (aX8_restUp : Nat) (aX8_restDown : Nat) (m_fewest : Int) (m_wishes : Int) (aX8_wished : Nat) (aX8_far : Nat) (aX8_queue : Nat) (m_divided : Int) (aX8_divisors : Nat) (aX8_least : Nat) (m_pairOne : Int) (m_pairTwo : Int) (m_sumUp : Int) (m_sumDown : Int) (m_divisors : Int → Int) (l1 : Int) (Q : Int → (Int → Int) → Prop) (r_m_divided : r32 m_divided) (r_m_divisors : rr32 m_divisors) (r_l1 : r32 l1) (h : wp_X8_findDivisors Q m_divided m_divisors l1) : Ct l D cI cJ zt yX8_findDivisors cX8_findDivisors 3 none 1 0 0 [.ref hX8, .int (i32 l1)] [(hX8, .inr (7, [.ref aX8_ups, .ref aX8_downs, .int (i32 m_many), .ref aX8_row, .int (i32 m_isSpent), .int (i32 m_found), .ref aX8_sumMany, .ref aX8_sumShares, .ref aX8_sumSet, .ref aX8_taken, .ref aX8_restUp, .ref aX8_restDown, .int (i32 m_fewest), .int (i32 m_wishes), .ref aX8_wished, .ref aX8_far, .ref aX8_queue, .int (i32 m_divided), .ref aX8_divisors, .ref aX8_least, .long (i64 m_pairOne), .long (i64 m_pairTwo), .long (i64 m_sumUp), .long (i64 m_sumDown)])), (aX8_divisors, aI cI 60 m_divisors)] (po_X8_findDivisors cI cJ hX8 aX8_ups aX8_downs m_many aX8_row m_isSpent m_found aX8_sumMany aX8_sumShares aX8_sumSet aX8_taken aX8_restUp aX8_restDown m_fewest m_wishes aX8_wished aX8_far aX8_queue aX8_divisors aX8_least m_pairOne m_pairTwo m_sumUp m_sumDown Q) := by
  refine ct_of (by decide +kernel) (Nat.le_of_ble_eq_true rfl) (fun X hl hDD hcI hcJ hzt hR hF hnm g => ?_)
  subst hl; subst hDD; subst hcI; subst hcJ; subst hzt
  show Wat X 0 0 0 [(0, .ref hX8), (1, .int (i32 l1))] [] [(hX8, .inr (7, [.ref aX8_ups, .ref aX8_downs, .int (i32 m_many), .ref aX8_row, .int (i32 m_isSpent), .int (i32 m_found), .ref aX8_sumMany, .ref aX8_sumShares, .ref aX8_sumSet, .ref aX8_taken, .ref aX8_restUp, .ref aX8_restDown, .int (i32 m_fewest), .int (i32 m_wishes), .ref aX8_wished, .ref aX8_far, .ref aX8_queue, .int (i32 m_divided), .ref aX8_divisors, .ref aX8_least, .long (i64 m_pairOne), .long (i64 m_pairTwo), .long (i64 m_sumUp), .long (i64 m_sumDown)])), (aX8_divisors, aI X.cI 60 m_divisors)]
  replace g : Gd X cX8_findDivisors RX8 none 3 := g
  rw [wp_X8_findDivisors] at h
  refine q_aload_n g 0 0 rfl dX8_findDivisors_0 ?_
  refine q_iconst g (0) dX8_findDivisors_1 ?_
  refine q_put (C := RX8) (T := TX8) (N := 24) (ty := .int) (ws' := [(hX8, .inr (7, [.ref aX8_ups, .ref aX8_downs, .int (i32 m_many), .ref aX8_row, .int (i32 m_isSpent), .int (i32 m_found), .ref aX8_sumMany, .ref aX8_sumShares, .ref aX8_sumSet, .ref aX8_taken, .ref aX8_restUp, .ref aX8_restDown, .int (i32 m_fewest), .int (i32 m_wishes), .ref aX8_wished, .ref aX8_far, .ref aX8_queue, .int (i32 0), .ref aX8_divisors, .ref aX8_least, .long (i64 m_pairOne), .long (i64 m_pairTwo), .long (i64 m_sumUp), .long (i64 m_sumDown)])), (aX8_divisors, aI X.cI 60 m_divisors)]) g 180 inX8 tyX8_ok nmX8 0 17 rfl rfl (by decide) wF_X8_180 rfl rfl rfl rfl (Nat.le_of_ble_eq_true rfl) rfl dX8_findDivisors_2 ?_
  refine q_iconst g (1) dX8_findDivisors_5 ?_
  refine q_istore_n (lv' := [(2, .int (i32 1)), (0, .ref hX8), (1, .int (i32 l1))]) g 2 2 rfl (by decide) rfl dX8_findDivisors_6 ?_
  refine q_lv (lv' := [(0, .ref hX8), (1, .int (i32 l1)), (2, .int (i32 1))]) [1, 2, 0] rfl ?_
  obtain ⟨n0, h⟩ := h
  exact s_X8_findDivisors_7 g hR hX8 aX8_ups aX8_downs m_many aX8_row m_isSpent m_found aX8_sumMany aX8_sumShares aX8_sumSet aX8_taken aX8_restUp aX8_restDown m_fewest m_wishes aX8_wished aX8_far aX8_queue aX8_divisors aX8_least m_pairOne m_pairTwo m_sumUp m_sumDown Q hF n0 0 m_divisors l1 1 (r32_lit _ (by decide)) r_m_divisors r_l1 (r32_lit _ (by decide)) h
theorem dX8_findLeast_0 : decode cX8_findLeast 0 = .ok (.iconst 0, 1) := by decide +kernel
theorem dX8_findLeast_1 : decode cX8_findLeast 1 = .ok (.istore_n 2, 1) := by decide +kernel
theorem dX8_findLeast_2 : decode cX8_findLeast 2 = .ok (.iload_n 2, 1) := by decide +kernel
theorem dX8_findLeast_3 : decode cX8_findLeast 3 = .ok (.iload_n 1, 1) := by decide +kernel
theorem dX8_findLeast_4 : decode cX8_findLeast 4 = .ok (.if_icmp .gt 26, 3) := by decide +kernel
theorem dX8_findLeast_7 : decode cX8_findLeast 7 = .ok (.aload_n 0, 1) := by decide +kernel
theorem dX8_findLeast_8 : decode cX8_findLeast 8 = .ok (.getfield 55, 3) := by decide +kernel
theorem dX8_findLeast_11 : decode cX8_findLeast 11 = .ok (.iload_n 2, 1) := by decide +kernel
theorem dX8_findLeast_12 : decode cX8_findLeast 12 = .ok (.iload_n 2, 1) := by decide +kernel
theorem dX8_findLeast_13 : decode cX8_findLeast 13 = .ok (.ifCond .ne 7, 3) := by decide +kernel
theorem dX8_findLeast_16 : decode cX8_findLeast 16 = .ok (.iconst 0, 1) := by decide +kernel
theorem dX8_findLeast_17 : decode cX8_findLeast 17 = .ok (.goto 6, 3) := by decide +kernel
theorem dX8_findLeast_20 : decode cX8_findLeast 20 = .ok (.sipush 1000, 3) := by decide +kernel
theorem dX8_findLeast_23 : decode cX8_findLeast 23 = .ok (.iastore, 1) := by decide +kernel
theorem dX8_findLeast_24 : decode cX8_findLeast 24 = .ok (.iinc 2 1, 3) := by decide +kernel
theorem dX8_findLeast_27 : decode cX8_findLeast 27 = .ok (.goto (-25), 3) := by decide +kernel
theorem dX8_findLeast_30 : decode cX8_findLeast 30 = .ok (.iconst 1, 1) := by decide +kernel
theorem dX8_findLeast_31 : decode cX8_findLeast 31 = .ok (.istore_n 2, 1) := by decide +kernel
theorem dX8_findLeast_32 : decode cX8_findLeast 32 = .ok (.iload_n 2, 1) := by decide +kernel
theorem dX8_findLeast_33 : decode cX8_findLeast 33 = .ok (.aload_n 0, 1) := by decide +kernel
theorem dX8_findLeast_34 : decode cX8_findLeast 34 = .ok (.getfield 180, 3) := by decide +kernel
theorem dX8_findLeast_37 : decode cX8_findLeast 37 = .ok (.if_icmp .gt 110, 3) := by decide +kernel
theorem dX8_findLeast_40 : decode cX8_findLeast 40 = .ok (.aload_n 0, 1) := by decide +kernel
theorem dX8_findLeast_41 : decode cX8_findLeast 41 = .ok (.getfield 51, 3) := by decide +kernel
theorem dX8_findLeast_44 : decode cX8_findLeast 44 = .ok (.iload_n 2, 1) := by decide +kernel
theorem dX8_findLeast_45 : decode cX8_findLeast 45 = .ok (.iconst 1, 1) := by decide +kernel
theorem dX8_findLeast_46 : decode cX8_findLeast 46 = .ok (.isub, 1) := by decide +kernel
theorem dX8_findLeast_47 : decode cX8_findLeast 47 = .ok (.iaload, 1) := by decide +kernel
theorem dX8_findLeast_48 : decode cX8_findLeast 48 = .ok (.istore_n 3, 1) := by decide +kernel
theorem dX8_findLeast_49 : decode cX8_findLeast 49 = .ok (.iconst 0, 1) := by decide +kernel
theorem dX8_findLeast_50 : decode cX8_findLeast 50 = .ok (.istore 4, 2) := by decide +kernel
theorem dX8_findLeast_52 : decode cX8_findLeast 52 = .ok (.iload 4, 2) := by decide +kernel
theorem dX8_findLeast_54 : decode cX8_findLeast 54 = .ok (.iload_n 1, 1) := by decide +kernel
theorem dX8_findLeast_55 : decode cX8_findLeast 55 = .ok (.if_icmp .gt 86, 3) := by decide +kernel
theorem dX8_findLeast_58 : decode cX8_findLeast 58 = .ok (.iload 4, 2) := by decide +kernel
theorem dX8_findLeast_60 : decode cX8_findLeast 60 = .ok (.iload_n 3, 1) := by decide +kernel
theorem dX8_findLeast_61 : decode cX8_findLeast 61 = .ok (.if_icmp .lt 25, 3) := by decide +kernel
theorem dX8_findLeast_64 : decode cX8_findLeast 64 = .ok (.aload_n 0, 1) := by decide +kernel
theorem dX8_findLeast_65 : decode cX8_findLeast 65 = .ok (.getfield 55, 3) := by decide +kernel
theorem dX8_findLeast_68 : decode cX8_findLeast 68 = .ok (.sipush 5001, 3) := by decide +kernel
theorem dX8_findLeast_71 : decode cX8_findLeast 71 = .ok (.iload_n 2, 1) := by decide +kernel
theorem dX8_findLeast_72 : decode cX8_findLeast 72 = .ok (.iconst 1, 1) := by decide +kernel
theorem dX8_findLeast_73 : decode cX8_findLeast 73 = .ok (.isub, 1) := by decide +kernel
theorem dX8_findLeast_74 : decode cX8_findLeast 74 = .ok (.imul, 1) := by decide +kernel
theorem dX8_findLeast_75 : decode cX8_findLeast 75 = .ok (.iload 4, 2) := by decide +kernel
theorem dX8_findLeast_77 : decode cX8_findLeast 77 = .ok (.iadd, 1) := by decide +kernel
theorem dX8_findLeast_78 : decode cX8_findLeast 78 = .ok (.iload_n 3, 1) := by decide +kernel
theorem dX8_findLeast_79 : decode cX8_findLeast 79 = .ok (.isub, 1) := by decide +kernel
theorem dX8_findLeast_80 : decode cX8_findLeast 80 = .ok (.iaload, 1) := by decide +kernel
theorem dX8_findLeast_81 : decode cX8_findLeast 81 = .ok (.iconst 1, 1) := by decide +kernel
theorem dX8_findLeast_82 : decode cX8_findLeast 82 = .ok (.iadd, 1) := by decide +kernel
theorem dX8_findLeast_83 : decode cX8_findLeast 83 = .ok (.goto 6, 3) := by decide +kernel
theorem dX8_findLeast_86 : decode cX8_findLeast 86 = .ok (.sipush 1000, 3) := by decide +kernel
theorem dX8_findLeast_89 : decode cX8_findLeast 89 = .ok (.istore 5, 2) := by decide +kernel
theorem dX8_findLeast_91 : decode cX8_findLeast 91 = .ok (.aload_n 0, 1) := by decide +kernel
theorem dX8_findLeast_92 : decode cX8_findLeast 92 = .ok (.getfield 55, 3) := by decide +kernel
theorem dX8_findLeast_95 : decode cX8_findLeast 95 = .ok (.sipush 5001, 3) := by decide +kernel
theorem dX8_findLeast_98 : decode cX8_findLeast 98 = .ok (.iload_n 2, 1) := by decide +kernel
theorem dX8_findLeast_99 : decode cX8_findLeast 99 = .ok (.iconst 1, 1) := by decide +kernel
theorem dX8_findLeast_100 : decode cX8_findLeast 100 = .ok (.isub, 1) := by decide +kernel
theorem dX8_findLeast_101 : decode cX8_findLeast 101 = .ok (.imul, 1) := by decide +kernel
theorem dX8_findLeast_102 : decode cX8_findLeast 102 = .ok (.iload 4, 2) := by decide +kernel
theorem dX8_findLeast_104 : decode cX8_findLeast 104 = .ok (.iadd, 1) := by decide +kernel
theorem dX8_findLeast_105 : decode cX8_findLeast 105 = .ok (.iaload, 1) := by decide +kernel
theorem dX8_findLeast_106 : decode cX8_findLeast 106 = .ok (.istore 6, 2) := by decide +kernel
theorem dX8_findLeast_108 : decode cX8_findLeast 108 = .ok (.aload_n 0, 1) := by decide +kernel
theorem dX8_findLeast_109 : decode cX8_findLeast 109 = .ok (.getfield 55, 3) := by decide +kernel
theorem dX8_findLeast_112 : decode cX8_findLeast 112 = .ok (.sipush 5001, 3) := by decide +kernel
theorem dX8_findLeast_115 : decode cX8_findLeast 115 = .ok (.iload_n 2, 1) := by decide +kernel
theorem dX8_findLeast_116 : decode cX8_findLeast 116 = .ok (.imul, 1) := by decide +kernel
theorem dX8_findLeast_117 : decode cX8_findLeast 117 = .ok (.iload 4, 2) := by decide +kernel
theorem dX8_findLeast_119 : decode cX8_findLeast 119 = .ok (.iadd, 1) := by decide +kernel
theorem dX8_findLeast_120 : decode cX8_findLeast 120 = .ok (.iload 5, 2) := by decide +kernel
theorem dX8_findLeast_122 : decode cX8_findLeast 122 = .ok (.iload 6, 2) := by decide +kernel
theorem dX8_findLeast_124 : decode cX8_findLeast 124 = .ok (.if_icmp .ge 8, 3) := by decide +kernel
theorem dX8_findLeast_127 : decode cX8_findLeast 127 = .ok (.iload 5, 2) := by decide +kernel
theorem dX8_findLeast_129 : decode cX8_findLeast 129 = .ok (.goto 5, 3) := by decide +kernel
theorem dX8_findLeast_132 : decode cX8_findLeast 132 = .ok (.iload 6, 2) := by decide +kernel
theorem dX8_findLeast_134 : decode cX8_findLeast 134 = .ok (.iastore, 1) := by decide +kernel
theorem dX8_findLeast_135 : decode cX8_findLeast 135 = .ok (.iinc 4 1, 3) := by decide +kernel
theorem dX8_findLeast_138 : decode cX8_findLeast 138 = .ok (.goto (-86), 3) := by decide +kernel
theorem dX8_findLeast_141 : decode cX8_findLeast 141 = .ok (.iinc 2 1, 3) := by decide +kernel
theorem dX8_findLeast_144 : decode cX8_findLeast 144 = .ok (.goto (-112), 3) := by decide +kernel
theorem dX8_findLeast_147 : decode cX8_findLeast 147 = .ok (.return_, 1) := by decide +kernel
abbrev po_X8_findLeast (cI cJ : ClassId) (hX8 : Nat) (aX8_ups : Nat) (aX8_downs : Nat) (m_many : Int) (aX8_row : Nat) (m_isSpent : Int) (m_found : Int) (aX8_sumMany : Nat) (aX8_sumShares : Nat) (aX8_sumSet : Nat) (aX8_taken : Nat) (aX8_restUp : Nat) (aX8_restDown : Nat) (m_fewest : Int) (m_wishes : Int) (aX8_wished : Nat) (aX8_far : Nat) (aX8_queue : Nat) (m_divided : Int) (aX8_divisors : Nat) (aX8_least : Nat) (m_pairOne : Int) (m_pairTwo : Int) (m_sumUp : Int) (m_sumDown : Int) (m_divisors : Int → Int) (Q : (Int → Int) → Prop) : Option Value → va_W → Prop := fun rv w1 => ∃ (m_least : Int → Int), rv = none ∧ w1 = [(hX8, .inr (7, [.ref aX8_ups, .ref aX8_downs, .int (i32 m_many), .ref aX8_row, .int (i32 m_isSpent), .int (i32 m_found), .ref aX8_sumMany, .ref aX8_sumShares, .ref aX8_sumSet, .ref aX8_taken, .ref aX8_restUp, .ref aX8_restDown, .int (i32 m_fewest), .int (i32 m_wishes), .ref aX8_wished, .ref aX8_far, .ref aX8_queue, .int (i32 m_divided), .ref aX8_divisors, .ref aX8_least, .long (i64 m_pairOne), .long (i64 m_pairTwo), .long (i64 m_sumUp), .long (i64 m_sumDown)])), (aX8_divisors, aI cI 60 m_divisors), (aX8_least, aI cI 305061 m_least)] ∧ rr32 m_least ∧ Q m_least
def wp_X8_findLeast_23 (Q : (Int → Int) → Prop) (m_divided : Int) (m_divisors : Int → Int) (K_2 : (Int → Int) → Int → Int → Prop) (m_least : Int → Int) (l1 : Int) (l2 : Int) (k1 : Int) (k2 : Int) : Prop := (0 ≤ k1 ∧ k1 < 305061 ∧ r32 (l2 + 1) ∧ K_2 (ups m_least k1 k2) l1 (l2 + 1))
set_option maxHeartbeats 4000000 in
set_option maxRecDepth 100000 in
theorem s_X8_findLeast_23 {X : Cx} (g : Gd X cX8_findLeast RX8 none 7) (hR : X.R = rmL 1 0 0) (hX8 : Nat) (aX8_ups : Nat) (aX8_downs : Nat) (m_many : Int) (aX8_row : Nat) (m_isSpent : Int) (m_found : Int) (aX8_sumMany : Nat) (aX8_sumShares : Nat) (aX8_sumSet : Nat) (aX8_taken : Nat) (aX8_restUp : Nat) (aX8_restDown : Nat) (m_fewest : Int) (m_wishes : Int) (aX8_wished : Nat) (aX8_far : Nat) (aX8_queue : Nat) (aX8_divisors : Nat) (aX8_least : Nat) (m_pairOne : Int) (m_pairTwo : Int) (m_sumUp : Int) (m_sumDown : Int) (m_divided : Int) (m_divisors : Int → Int) (r_m_divided : r32 m_divided) (r_m_divisors : rr32 m_divisors) (Q : (Int → Int) → Prop) (hF : FQ X 0 0 (po_X8_findLeast X.cI X.cJ hX8 aX8_ups aX8_downs m_many aX8_row m_isSpent m_found aX8_sumMany aX8_sumShares aX8_sumSet aX8_taken aX8_restUp aX8_restDown m_fewest m_wishes aX8_wished aX8_far aX8_queue m_divided aX8_divisors aX8_least m_pairOne m_pairTwo m_sumUp m_sumDown m_divisors Q)) (K_2 : (Int → Int) → Int → Int → Prop) (hK_2 : ∀ (m_least : Int → Int) (l1 : Int) (l2 : Int), rr32 m_least → r32 l1 → r32 l2 → K_2 m_least l1 l2 → Wat X 0 0 2 [(0, .ref hX8), (1, .int (i32 l1)), (2, .int (i32 l2))] [] [(hX8, .inr (7, [.ref aX8_ups, .ref aX8_downs, .int (i32 m_many), .ref aX8_row, .int (i32 m_isSpent), .int (i32 m_found), .ref aX8_sumMany, .ref aX8_sumShares, .ref aX8_sumSet, .ref aX8_taken, .ref aX8_restUp, .ref aX8_restDown, .int (i32 m_fewest), .int (i32 m_wishes), .ref aX8_wished, .ref aX8_far, .ref aX8_queue, .int (i32 m_divided), .ref aX8_divisors, .ref aX8_least, .long (i64 m_pairOne), .long (i64 m_pairTwo), .long (i64 m_sumUp), .long (i64 m_sumDown)])), (aX8_divisors, aI X.cI 60 m_divisors), (aX8_least, aI X.cI 305061 m_least)]) : ∀ (m_least : Int → Int) (l1 : Int) (l2 : Int) (k1 : Int) (k2 : Int), rr32 m_least → r32 l1 → r32 l2 → r32 k1 → r32 k2 → wp_X8_findLeast_23 Q m_divided m_divisors K_2 m_least l1 l2 k1 k2 → Wat X 0 0 23 [(0, .ref hX8), (1, .int (i32 l1)), (2, .int (i32 l2))] [.int (i32 k2), .int (i32 k1), .ref aX8_least] [(hX8, .inr (7, [.ref aX8_ups, .ref aX8_downs, .int (i32 m_many), .ref aX8_row, .int (i32 m_isSpent), .int (i32 m_found), .ref aX8_sumMany, .ref aX8_sumShares, .ref aX8_sumSet, .ref aX8_taken, .ref aX8_restUp, .ref aX8_restDown, .int (i32 m_fewest), .int (i32 m_wishes), .ref aX8_wished, .ref aX8_far, .ref aX8_queue, .int (i32 m_divided), .ref aX8_divisors, .ref aX8_least, .long (i64 m_pairOne), .long (i64 m_pairTwo), .long (i64 m_sumUp), .long (i64 m_sumDown)])), (aX8_divisors, aI X.cI 60 m_divisors), (aX8_least, aI X.cI 305061 m_least)] := by
  intro m_least l1 l2 k1 k2 r_m_least r_l1 r_l2 r_k1 r_k2 h
  rw [wp_X8_findLeast_23] at h
  obtain ⟨c23, h⟩ := h
  obtain ⟨e23, h⟩ := h
  refine q_iast (ws' := [(hX8, .inr (7, [.ref aX8_ups, .ref aX8_downs, .int (i32 m_many), .ref aX8_row, .int (i32 m_isSpent), .int (i32 m_found), .ref aX8_sumMany, .ref aX8_sumShares, .ref aX8_sumSet, .ref aX8_taken, .ref aX8_restUp, .ref aX8_restDown, .int (i32 m_fewest), .int (i32 m_wishes), .ref aX8_wished, .ref aX8_far, .ref aX8_queue, .int (i32 m_divided), .ref aX8_divisors, .ref aX8_least, .long (i64 m_pairOne), .long (i64 m_pairTwo), .long (i64 m_sumUp), .long (i64 m_sumDown)])), (aX8_divisors, aI X.cI 60 m_divisors), (aX8_least, aI X.cI 305061 (ups m_least k1 k2))]) g 2 rfl c23 e23 (by decide) rfl dX8_findLeast_23 ?_
  obtain ⟨c24, h⟩ := h
  refine q_iinc (lv' := [(2, .int (i32 (l2 + 1))), (0, .ref hX8), (1, .int (i32 l1))]) g 2 2 1 (by decide) rfl rfl dX8_findLeast_24 ?_
  refine q_goto g (-25) 2 (by decide) dX8_findLeast_27 ?_
  refine q_lv (lv' := [(0, .ref hX8), (1, .int (i32 l1)), (2, .int (i32 (l2 + 1)))]) [1, 2, 0] rfl ?_
  exact hK_2 (ups m_least k1 k2) l1 (l2 + 1) (rr32_u r_m_least r_k2) r_l1 c24 h
def wp_X8_findLeast_134 (Q : (Int → Int) → Prop) (m_divided : Int) (m_divisors : Int → Int) (K_32 : (Int → Int) → Int → Int → Prop) (K_52 : (Int → Int) → Int → Int → Int → Int → Prop) (m_least : Int → Int) (l1 : Int) (l2 : Int) (l3 : Int) (l4 : Int) (k1 : Int) (k2 : Int) : Prop := (0 ≤ k1 ∧ k1 < 305061 ∧ r32 (l4 + 1) ∧ K_52 (ups m_least k1 k2) l1 l2 l3 (l4 + 1))
set_option maxHeartbeats 4000000 in
set_option maxRecDepth 100000 in
theorem s_X8_findLeast_134 {X : Cx} (g : Gd X cX8_findLeast RX8 none 7) (hR : X.R = rmL 1 0 0) (hX8 : Nat) (aX8_ups : Nat) (aX8_downs : Nat) (m_many : Int) (aX8_row : Nat) (m_isSpent : Int) (m_found : Int) (aX8_sumMany : Nat) (aX8_sumShares : Nat) (aX8_sumSet : Nat) (aX8_taken : Nat) (aX8_restUp : Nat) (aX8_restDown : Nat) (m_fewest : Int) (m_wishes : Int) (aX8_wished : Nat) (aX8_far : Nat) (aX8_queue : Nat) (aX8_divisors : Nat) (aX8_least : Nat) (m_pairOne : Int) (m_pairTwo : Int) (m_sumUp : Int) (m_sumDown : Int) (m_divided : Int) (m_divisors : Int → Int) (r_m_divided : r32 m_divided) (r_m_divisors : rr32 m_divisors) (Q : (Int → Int) → Prop) (hF : FQ X 0 0 (po_X8_findLeast X.cI X.cJ hX8 aX8_ups aX8_downs m_many aX8_row m_isSpent m_found aX8_sumMany aX8_sumShares aX8_sumSet aX8_taken aX8_restUp aX8_restDown m_fewest m_wishes aX8_wished aX8_far aX8_queue m_divided aX8_divisors aX8_least m_pairOne m_pairTwo m_sumUp m_sumDown m_divisors Q)) (K_32 : (Int → Int) → Int → Int → Prop) (hK_32 : ∀ (m_least : Int → Int) (l1 : Int) (l2 : Int), rr32 m_least → r32 l1 → r32 l2 → K_32 m_least l1 l2 → Wat X 0 0 32 [(0, .ref hX8), (1, .int (i32 l1)), (2, .int (i32 l2))] [] [(hX8, .inr (7, [.ref aX8_ups, .ref aX8_downs, .int (i32 m_many), .ref aX8_row, .int (i32 m_isSpent), .int (i32 m_found), .ref aX8_sumMany, .ref aX8_sumShares, .ref aX8_sumSet, .ref aX8_taken, .ref aX8_restUp, .ref aX8_restDown, .int (i32 m_fewest), .int (i32 m_wishes), .ref aX8_wished, .ref aX8_far, .ref aX8_queue, .int (i32 m_divided), .ref aX8_divisors, .ref aX8_least, .long (i64 m_pairOne), .long (i64 m_pairTwo), .long (i64 m_sumUp), .long (i64 m_sumDown)])), (aX8_divisors, aI X.cI 60 m_divisors), (aX8_least, aI X.cI 305061 m_least)]) (K_52 : (Int → Int) → Int → Int → Int → Int → Prop) (hK_52 : ∀ (m_least : Int → Int) (l1 : Int) (l2 : Int) (l3 : Int) (l4 : Int), rr32 m_least → r32 l1 → r32 l2 → r32 l3 → r32 l4 → K_52 m_least l1 l2 l3 l4 → Wat X 0 0 52 [(0, .ref hX8), (1, .int (i32 l1)), (2, .int (i32 l2)), (3, .int (i32 l3)), (4, .int (i32 l4))] [] [(hX8, .inr (7, [.ref aX8_ups, .ref aX8_downs, .int (i32 m_many), .ref aX8_row, .int (i32 m_isSpent), .int (i32 m_found), .ref aX8_sumMany, .ref aX8_sumShares, .ref aX8_sumSet, .ref aX8_taken, .ref aX8_restUp, .ref aX8_restDown, .int (i32 m_fewest), .int (i32 m_wishes), .ref aX8_wished, .ref aX8_far, .ref aX8_queue, .int (i32 m_divided), .ref aX8_divisors, .ref aX8_least, .long (i64 m_pairOne), .long (i64 m_pairTwo), .long (i64 m_sumUp), .long (i64 m_sumDown)])), (aX8_divisors, aI X.cI 60 m_divisors), (aX8_least, aI X.cI 305061 m_least)]) : ∀ (m_least : Int → Int) (l1 : Int) (l2 : Int) (l3 : Int) (l4 : Int) (k1 : Int) (k2 : Int), rr32 m_least → r32 l1 → r32 l2 → r32 l3 → r32 l4 → r32 k1 → r32 k2 → wp_X8_findLeast_134 Q m_divided m_divisors K_32 K_52 m_least l1 l2 l3 l4 k1 k2 → Wat X 0 0 134 [(0, .ref hX8), (1, .int (i32 l1)), (2, .int (i32 l2)), (3, .int (i32 l3)), (4, .int (i32 l4))] [.int (i32 k2), .int (i32 k1), .ref aX8_least] [(hX8, .inr (7, [.ref aX8_ups, .ref aX8_downs, .int (i32 m_many), .ref aX8_row, .int (i32 m_isSpent), .int (i32 m_found), .ref aX8_sumMany, .ref aX8_sumShares, .ref aX8_sumSet, .ref aX8_taken, .ref aX8_restUp, .ref aX8_restDown, .int (i32 m_fewest), .int (i32 m_wishes), .ref aX8_wished, .ref aX8_far, .ref aX8_queue, .int (i32 m_divided), .ref aX8_divisors, .ref aX8_least, .long (i64 m_pairOne), .long (i64 m_pairTwo), .long (i64 m_sumUp), .long (i64 m_sumDown)])), (aX8_divisors, aI X.cI 60 m_divisors), (aX8_least, aI X.cI 305061 m_least)] := by
  intro m_least l1 l2 l3 l4 k1 k2 r_m_least r_l1 r_l2 r_l3 r_l4 r_k1 r_k2 h
  rw [wp_X8_findLeast_134] at h
  obtain ⟨c134, h⟩ := h
  obtain ⟨e134, h⟩ := h
  refine q_iast (ws' := [(hX8, .inr (7, [.ref aX8_ups, .ref aX8_downs, .int (i32 m_many), .ref aX8_row, .int (i32 m_isSpent), .int (i32 m_found), .ref aX8_sumMany, .ref aX8_sumShares, .ref aX8_sumSet, .ref aX8_taken, .ref aX8_restUp, .ref aX8_restDown, .int (i32 m_fewest), .int (i32 m_wishes), .ref aX8_wished, .ref aX8_far, .ref aX8_queue, .int (i32 m_divided), .ref aX8_divisors, .ref aX8_least, .long (i64 m_pairOne), .long (i64 m_pairTwo), .long (i64 m_sumUp), .long (i64 m_sumDown)])), (aX8_divisors, aI X.cI 60 m_divisors), (aX8_least, aI X.cI 305061 (ups m_least k1 k2))]) g 2 rfl c134 e134 (by decide) rfl dX8_findLeast_134 ?_
  obtain ⟨c135, h⟩ := h
  refine q_iinc (lv' := [(4, .int (i32 (l4 + 1))), (0, .ref hX8), (1, .int (i32 l1)), (2, .int (i32 l2)), (3, .int (i32 l3))]) g 4 4 1 (by decide) rfl rfl dX8_findLeast_135 ?_
  refine q_goto g (-86) 52 (by decide) dX8_findLeast_138 ?_
  refine q_lv (lv' := [(0, .ref hX8), (1, .int (i32 l1)), (2, .int (i32 l2)), (3, .int (i32 l3)), (4, .int (i32 (l4 + 1)))]) [1, 2, 3, 4, 0] rfl ?_
  exact hK_52 (ups m_least k1 k2) l1 l2 l3 (l4 + 1) (rr32_u r_m_least r_k2) r_l1 r_l2 r_l3 c135 h
def wp_X8_findLeast_89 (Q : (Int → Int) → Prop) (m_divided : Int) (m_divisors : Int → Int) (K_32 : (Int → Int) → Int → Int → Prop) (K_52 : (Int → Int) → Int → Int → Int → Int → Prop) (m_least : Int → Int) (l1 : Int) (l2 : Int) (l3 : Int) (l4 : Int) (k0 : Int) : Prop := (r32 (l2 - 1) ∧ r32 (5001 * (l2 - 1)) ∧ r32 ((5001 * (l2 - 1)) + l4) ∧ 0 ≤ ((5001 * (l2 - 1)) + l4) ∧ ((5001 * (l2 - 1)) + l4) < 305061 ∧ ∀ x106 : Int, x106 = (m_least ((5001 * (l2 - 1)) + l4)) → r32 (5001 * l2) ∧ r32 ((5001 * l2) + l4) ∧ ((x106 ≤ k0 → wp_X8_findLeast_134 Q m_divided m_divisors K_32 K_52 m_least l1 l2 l3 l4 ((5001 * l2) + l4) x106) ∧
  (¬ (x106 ≤ k0) → wp_X8_findLeast_134 Q m_divided m_divisors K_32 K_52 m_least l1 l2 l3 l4 ((5001 * l2) + l4) k0)))
set_option maxHeartbeats 4000000 in
set_option maxRecDepth 100000 in
theorem s_X8_findLeast_89 {X : Cx} (g : Gd X cX8_findLeast RX8 none 7) (hR : X.R = rmL 1 0 0) (hX8 : Nat) (aX8_ups : Nat) (aX8_downs : Nat) (m_many : Int) (aX8_row : Nat) (m_isSpent : Int) (m_found : Int) (aX8_sumMany : Nat) (aX8_sumShares : Nat) (aX8_sumSet : Nat) (aX8_taken : Nat) (aX8_restUp : Nat) (aX8_restDown : Nat) (m_fewest : Int) (m_wishes : Int) (aX8_wished : Nat) (aX8_far : Nat) (aX8_queue : Nat) (aX8_divisors : Nat) (aX8_least : Nat) (m_pairOne : Int) (m_pairTwo : Int) (m_sumUp : Int) (m_sumDown : Int) (m_divided : Int) (m_divisors : Int → Int) (r_m_divided : r32 m_divided) (r_m_divisors : rr32 m_divisors) (Q : (Int → Int) → Prop) (hF : FQ X 0 0 (po_X8_findLeast X.cI X.cJ hX8 aX8_ups aX8_downs m_many aX8_row m_isSpent m_found aX8_sumMany aX8_sumShares aX8_sumSet aX8_taken aX8_restUp aX8_restDown m_fewest m_wishes aX8_wished aX8_far aX8_queue m_divided aX8_divisors aX8_least m_pairOne m_pairTwo m_sumUp m_sumDown m_divisors Q)) (K_32 : (Int → Int) → Int → Int → Prop) (hK_32 : ∀ (m_least : Int → Int) (l1 : Int) (l2 : Int), rr32 m_least → r32 l1 → r32 l2 → K_32 m_least l1 l2 → Wat X 0 0 32 [(0, .ref hX8), (1, .int (i32 l1)), (2, .int (i32 l2))] [] [(hX8, .inr (7, [.ref aX8_ups, .ref aX8_downs, .int (i32 m_many), .ref aX8_row, .int (i32 m_isSpent), .int (i32 m_found), .ref aX8_sumMany, .ref aX8_sumShares, .ref aX8_sumSet, .ref aX8_taken, .ref aX8_restUp, .ref aX8_restDown, .int (i32 m_fewest), .int (i32 m_wishes), .ref aX8_wished, .ref aX8_far, .ref aX8_queue, .int (i32 m_divided), .ref aX8_divisors, .ref aX8_least, .long (i64 m_pairOne), .long (i64 m_pairTwo), .long (i64 m_sumUp), .long (i64 m_sumDown)])), (aX8_divisors, aI X.cI 60 m_divisors), (aX8_least, aI X.cI 305061 m_least)]) (K_52 : (Int → Int) → Int → Int → Int → Int → Prop) (hK_52 : ∀ (m_least : Int → Int) (l1 : Int) (l2 : Int) (l3 : Int) (l4 : Int), rr32 m_least → r32 l1 → r32 l2 → r32 l3 → r32 l4 → K_52 m_least l1 l2 l3 l4 → Wat X 0 0 52 [(0, .ref hX8), (1, .int (i32 l1)), (2, .int (i32 l2)), (3, .int (i32 l3)), (4, .int (i32 l4))] [] [(hX8, .inr (7, [.ref aX8_ups, .ref aX8_downs, .int (i32 m_many), .ref aX8_row, .int (i32 m_isSpent), .int (i32 m_found), .ref aX8_sumMany, .ref aX8_sumShares, .ref aX8_sumSet, .ref aX8_taken, .ref aX8_restUp, .ref aX8_restDown, .int (i32 m_fewest), .int (i32 m_wishes), .ref aX8_wished, .ref aX8_far, .ref aX8_queue, .int (i32 m_divided), .ref aX8_divisors, .ref aX8_least, .long (i64 m_pairOne), .long (i64 m_pairTwo), .long (i64 m_sumUp), .long (i64 m_sumDown)])), (aX8_divisors, aI X.cI 60 m_divisors), (aX8_least, aI X.cI 305061 m_least)]) : ∀ (m_least : Int → Int) (l1 : Int) (l2 : Int) (l3 : Int) (l4 : Int) (k0 : Int), rr32 m_least → r32 l1 → r32 l2 → r32 l3 → r32 l4 → r32 k0 → wp_X8_findLeast_89 Q m_divided m_divisors K_32 K_52 m_least l1 l2 l3 l4 k0 → Wat X 0 0 89 [(0, .ref hX8), (1, .int (i32 l1)), (2, .int (i32 l2)), (3, .int (i32 l3)), (4, .int (i32 l4))] [.int (i32 k0)] [(hX8, .inr (7, [.ref aX8_ups, .ref aX8_downs, .int (i32 m_many), .ref aX8_row, .int (i32 m_isSpent), .int (i32 m_found), .ref aX8_sumMany, .ref aX8_sumShares, .ref aX8_sumSet, .ref aX8_taken, .ref aX8_restUp, .ref aX8_restDown, .int (i32 m_fewest), .int (i32 m_wishes), .ref aX8_wished, .ref aX8_far, .ref aX8_queue, .int (i32 m_divided), .ref aX8_divisors, .ref aX8_least, .long (i64 m_pairOne), .long (i64 m_pairTwo), .long (i64 m_sumUp), .long (i64 m_sumDown)])), (aX8_divisors, aI X.cI 60 m_divisors), (aX8_least, aI X.cI 305061 m_least)] := by
  intro m_least l1 l2 l3 l4 k0 r_m_least r_l1 r_l2 r_l3 r_l4 r_k0 h
  rw [wp_X8_findLeast_89] at h
  refine q_istore (lv' := [(5, .int (i32 k0)), (0, .ref hX8), (1, .int (i32 l1)), (2, .int (i32 l2)), (3, .int (i32 l3)), (4, .int (i32 l4))]) g 5   (by decide) rfl dX8_findLeast_89 ?_
  refine q_aload_n g 0 1 rfl dX8_findLeast_91 ?_
  refine q_get (C := RX8) (T := TX8) (N := 24) g 55 inX8 0 19 rfl rfl (by decide) wF_X8_55 rfl dX8_findLeast_92 ?_
  refine q_sipush g (5001) (by decide) (by decide) dX8_findLeast_95 ?_
  refine q_iload_n g 2 3 rfl dX8_findLeast_98 ?_
  refine q_iconst g (1) dX8_findLeast_99 ?_
  obtain ⟨c100, h⟩ := h
  refine q_isub g dX8_findLeast_100 ?_
  obtain ⟨c101, h⟩ := h
  refine q_imul g dX8_findLeast_101 ?_
  refine q_iload g 4 5 rfl dX8_findLeast_102 ?_
  obtain ⟨c104, h⟩ := h
  refine q_iadd g dX8_findLeast_104 ?_
  obtain ⟨c105, h⟩ := h
  obtain ⟨e105, h⟩ := h
  refine q_iald g 2 rfl c105 e105 (by decide) dX8_findLeast_105 ?_
  refine q_topi (r_m_least _) (fun x106 ex106 rx106 => ?_)
  replace h := h x106 ex106
  refine q_istore (lv' := [(6, .int (i32 x106)), (5, .int (i32 k0)), (0, .ref hX8), (1, .int (i32 l1)), (2, .int (i32 l2)), (3, .int (i32 l3)), (4, .int (i32 l4))]) g 6   (by decide) rfl dX8_findLeast_106 ?_
  refine q_aload_n g 0 2 rfl dX8_findLeast_108 ?_
  refine q_get (C := RX8) (T := TX8) (N := 24) g 55 inX8 0 19 rfl rfl (by decide) wF_X8_55 rfl dX8_findLeast_109 ?_
  refine q_sipush g (5001) (by decide) (by decide) dX8_findLeast_112 ?_
  refine q_iload_n g 2 4 rfl dX8_findLeast_115 ?_
  obtain ⟨c116, h⟩ := h
  refine q_imul g dX8_findLeast_116 ?_
  refine q_iload g 4 6 rfl dX8_findLeast_117 ?_
  obtain ⟨c119, h⟩ := h
  refine q_iadd g dX8_findLeast_119 ?_
  refine q_iload g 5 1 rfl dX8_findLeast_120 ?_
  refine q_iload g 6 0 rfl dX8_findLeast_122 ?_
  refine q_icmp_ge g (8) 132 r_k0 rx106 (by decide) dX8_findLeast_124 (fun b124 => ?_) (fun b124 => ?_)
  · replace h := h.1 b124
    refine q_iload g 6 0 rfl dX8_findLeast_132 ?_
    refine q_lv (lv' := [(0, .ref hX8), (1, .int (i32 l1)), (2, .int (i32 l2)), (3, .int (i32 l3)), (4, .int (i32 l4))]) [2, 3, 4, 5, 6] rfl ?_
    exact s_X8_findLeast_134 g hR hX8 aX8_ups aX8_downs m_many aX8_row m_isSpent m_found aX8_sumMany aX8_sumShares aX8_sumSet aX8_taken aX8_restUp aX8_restDown m_fewest m_wishes aX8_wished aX8_far aX8_queue aX8_divisors aX8_least m_pairOne m_pairTwo m_sumUp m_sumDown m_divided m_divisors r_m_divided r_m_divisors Q hF K_32 hK_32 K_52 hK_52 m_least l1 l2 l3 l4 ((5001 * l2) + l4) x106 r_m_least r_l1 r_l2 r_l3 r_l4 c119 rx106 h
  replace h := h.2 b124
  refine q_iload g 5 1 rfl dX8_findLeast_127 ?_
  refine q_goto g (5) 134 (by decide) dX8_findLeast_129 ?_
  refine q_lv (lv' := [(0, .ref hX8), (1, .int (i32 l1)), (2, .int (i32 l2)), (3, .int (i32 l3)), (4, .int (i32 l4))]) [2, 3, 4, 5, 6] rfl ?_
  exact s_X8_findLeast_134 g hR hX8 aX8_ups aX8_downs m_many aX8_row m_isSpent m_found aX8_sumMany aX8_sumShares aX8_sumSet aX8_taken aX8_restUp aX8_restDown m_fewest m_wishes aX8_wished aX8_far aX8_queue aX8_divisors aX8_least m_pairOne m_pairTwo m_sumUp m_sumDown m_divided m_divisors r_m_divided r_m_divisors Q hF K_32 hK_32 K_52 hK_52 m_least l1 l2 l3 l4 ((5001 * l2) + l4) k0 r_m_least r_l1 r_l2 r_l3 r_l4 c119 r_k0 h
def wp_X8_findLeast_52 (Q : (Int → Int) → Prop) (m_divided : Int) (m_divisors : Int → Int) (K_32 : (Int → Int) → Int → Int → Prop) : Nat → (Int → Int) → Int → Int → Int → Int → Prop
  | 0, _, _, _, _, _ => False
  | n + 1, m_least, l1, l2, l3, l4 => ((l1 < l4 → (r32 (l2 + 1) ∧ K_32 m_least l1 (l2 + 1))) ∧
  (¬ (l1 < l4) → ((l4 < l3 → wp_X8_findLeast_89 Q m_divided m_divisors K_32 (wp_X8_findLeast_52 Q m_divided m_divisors K_32 n) m_least l1 l2 l3 l4 1000) ∧
  (¬ (l4 < l3) → (r32 (l2 - 1) ∧ r32 (5001 * (l2 - 1)) ∧ r32 ((5001 * (l2 - 1)) + l4) ∧ r32 (((5001 * (l2 - 1)) + l4) - l3) ∧ 0 ≤ (((5001 * (l2 - 1)) + l4) - l3) ∧ (((5001 * (l2 - 1)) + l4) - l3) < 305061 ∧ r32 ((m_least (((5001 * (l2 - 1)) + l4) - l3)) + 1) ∧ wp_X8_findLeast_89 Q m_divided m_divisors K_32 (wp_X8_findLeast_52 Q m_divided m_divisors K_32 n) m_least l1 l2 l3 l4 ((m_least (((5001 * (l2 - 1)) + l4) - l3)) + 1))))))
set_option maxHeartbeats 4000000 in
set_option maxRecDepth 100000 in
theorem s_X8_findLeast_52 {X : Cx} (g : Gd X cX8_findLeast RX8 none 7) (hR : X.R = rmL 1 0 0) (hX8 : Nat) (aX8_ups : Nat) (aX8_downs : Nat) (m_many : Int) (aX8_row : Nat) (m_isSpent : Int) (m_found : Int) (aX8_sumMany : Nat) (aX8_sumShares : Nat) (aX8_sumSet : Nat) (aX8_taken : Nat) (aX8_restUp : Nat) (aX8_restDown : Nat) (m_fewest : Int) (m_wishes : Int) (aX8_wished : Nat) (aX8_far : Nat) (aX8_queue : Nat) (aX8_divisors : Nat) (aX8_least : Nat) (m_pairOne : Int) (m_pairTwo : Int) (m_sumUp : Int) (m_sumDown : Int) (m_divided : Int) (m_divisors : Int → Int) (r_m_divided : r32 m_divided) (r_m_divisors : rr32 m_divisors) (Q : (Int → Int) → Prop) (hF : FQ X 0 0 (po_X8_findLeast X.cI X.cJ hX8 aX8_ups aX8_downs m_many aX8_row m_isSpent m_found aX8_sumMany aX8_sumShares aX8_sumSet aX8_taken aX8_restUp aX8_restDown m_fewest m_wishes aX8_wished aX8_far aX8_queue m_divided aX8_divisors aX8_least m_pairOne m_pairTwo m_sumUp m_sumDown m_divisors Q)) (K_32 : (Int → Int) → Int → Int → Prop) (hK_32 : ∀ (m_least : Int → Int) (l1 : Int) (l2 : Int), rr32 m_least → r32 l1 → r32 l2 → K_32 m_least l1 l2 → Wat X 0 0 32 [(0, .ref hX8), (1, .int (i32 l1)), (2, .int (i32 l2))] [] [(hX8, .inr (7, [.ref aX8_ups, .ref aX8_downs, .int (i32 m_many), .ref aX8_row, .int (i32 m_isSpent), .int (i32 m_found), .ref aX8_sumMany, .ref aX8_sumShares, .ref aX8_sumSet, .ref aX8_taken, .ref aX8_restUp, .ref aX8_restDown, .int (i32 m_fewest), .int (i32 m_wishes), .ref aX8_wished, .ref aX8_far, .ref aX8_queue, .int (i32 m_divided), .ref aX8_divisors, .ref aX8_least, .long (i64 m_pairOne), .long (i64 m_pairTwo), .long (i64 m_sumUp), .long (i64 m_sumDown)])), (aX8_divisors, aI X.cI 60 m_divisors), (aX8_least, aI X.cI 305061 m_least)]) : ∀ (n : Nat) (m_least : Int → Int) (l1 : Int) (l2 : Int) (l3 : Int) (l4 : Int), rr32 m_least → r32 l1 → r32 l2 → r32 l3 → r32 l4 → wp_X8_findLeast_52 Q m_divided m_divisors K_32 n m_least l1 l2 l3 l4 → Wat X 0 0 52 [(0, .ref hX8), (1, .int (i32 l1)), (2, .int (i32 l2)), (3, .int (i32 l3)), (4, .int (i32 l4))] [] [(hX8, .inr (7, [.ref aX8_ups, .ref aX8_downs, .int (i32 m_many), .ref aX8_row, .int (i32 m_isSpent), .int (i32 m_found), .ref aX8_sumMany, .ref aX8_sumShares, .ref aX8_sumSet, .ref aX8_taken, .ref aX8_restUp, .ref aX8_restDown, .int (i32 m_fewest), .int (i32 m_wishes), .ref aX8_wished, .ref aX8_far, .ref aX8_queue, .int (i32 m_divided), .ref aX8_divisors, .ref aX8_least, .long (i64 m_pairOne), .long (i64 m_pairTwo), .long (i64 m_sumUp), .long (i64 m_sumDown)])), (aX8_divisors, aI X.cI 60 m_divisors), (aX8_least, aI X.cI 305061 m_least)] := by
  intro n
  induction n with
  | zero => intro m_least l1 l2 l3 l4 r_m_least r_l1 r_l2 r_l3 r_l4 h; exact False.elim h
  | succ n ih =>
    intro m_least l1 l2 l3 l4 r_m_least r_l1 r_l2 r_l3 r_l4 h
    rw [wp_X8_findLeast_52] at h
    refine q_iload g 4 4 rfl dX8_findLeast_52 ?_
    refine q_iload_n g 1 1 rfl dX8_findLeast_54 ?_
    refine q_icmp_gt g (86) 141 r_l4 r_l1 (by decide) dX8_findLeast_55 (fun b55 => ?_) (fun b55 => ?_)
    · replace h := h.1 b55
      obtain ⟨c141, h⟩ := h
      refine q_iinc (lv' := [(2, .int (i32 (l2 + 1))), (0, .ref hX8), (1, .int (i32 l1)), (3, .int (i32 l3)), (4, .int (i32 l4))]) g 2 2 1 (by decide) rfl rfl dX8_findLeast_141 ?_
      refine q_goto g (-112) 32 (by decide) dX8_findLeast_144 ?_
      refine q_lv (lv' := [(0, .ref hX8), (1, .int (i32 l1)), (2, .int (i32 (l2 + 1)))]) [1, 2, 0] rfl ?_
      exact hK_32 m_least l1 (l2 + 1) r_m_least r_l1 c141 h
    replace h := h.2 b55
    refine q_iload g 4 4 rfl dX8_findLeast_58 ?_
    refine q_iload_n g 3 3 rfl dX8_findLeast_60 ?_
    refine q_icmp_lt g (25) 86 r_l4 r_l3 (by decide) dX8_findLeast_61 (fun b61 => ?_) (fun b61 => ?_)
    · replace h := h.1 b61
      refine q_sipush g (1000) (by decide) (by decide) dX8_findLeast_86 ?_
      exact s_X8_findLeast_89 g hR hX8 aX8_ups aX8_downs m_many aX8_row m_isSpent m_found aX8_sumMany aX8_sumShares aX8_sumSet aX8_taken aX8_restUp aX8_restDown m_fewest m_wishes aX8_wished aX8_far aX8_queue aX8_divisors aX8_least m_pairOne m_pairTwo m_sumUp m_sumDown m_divided m_divisors r_m_divided r_m_divisors Q hF K_32 hK_32 (wp_X8_findLeast_52 Q m_divided m_divisors K_32 n) (fun v0 v1 v2 v3 v4 w0 w1 w2 w3 w4 hh => ih v0 v1 v2 v3 v4 w0 w1 w2 w3 w4 hh) m_least l1 l2 l3 l4 1000 r_m_least r_l1 r_l2 r_l3 r_l4 (r32_lit _ (by decide)) h
    replace h := h.2 b61
    refine q_aload_n g 0 0 rfl dX8_findLeast_64 ?_
    refine q_get (C := RX8) (T := TX8) (N := 24) g 55 inX8 0 19 rfl rfl (by decide) wF_X8_55 rfl dX8_findLeast_65 ?_
    refine q_sipush g (5001) (by decide) (by decide) dX8_findLeast_68 ?_
    refine q_iload_n g 2 2 rfl dX8_findLeast_71 ?_
    refine q_iconst g (1) dX8_findLeast_72 ?_
    obtain ⟨c73, h⟩ := h
    refine q_isub g dX8_findLeast_73 ?_
    obtain ⟨c74, h⟩ := h
    refine q_imul g dX8_findLeast_74 ?_
    refine q_iload g 4 4 rfl dX8_findLeast_75 ?_
    obtain ⟨c77, h⟩ := h
    refine q_iadd g dX8_findLeast_77 ?_
    refine q_iload_n g 3 3 rfl dX8_findLeast_78 ?_
    obtain ⟨c79, h⟩ := h
    refine q_isub g dX8_findLeast_79 ?_
    obtain ⟨c80, h⟩ := h
    obtain ⟨e80, h⟩ := h
    refine q_iald g 2 rfl c80 e80 (by decide) dX8_findLeast_80 ?_
    refine q_iconst g (1) dX8_findLeast_81 ?_
    obtain ⟨c82, h⟩ := h
    refine q_iadd g dX8_findLeast_82 ?_
    refine q_goto g (6) 89 (by decide) dX8_findLeast_83 ?_
    exact s_X8_findLeast_89 g hR hX8 aX8_ups aX8_downs m_many aX8_row m_isSpent m_found aX8_sumMany aX8_sumShares aX8_sumSet aX8_taken aX8_restUp aX8_restDown m_fewest m_wishes aX8_wished aX8_far aX8_queue aX8_divisors aX8_least m_pairOne m_pairTwo m_sumUp m_sumDown m_divided m_divisors r_m_divided r_m_divisors Q hF K_32 hK_32 (wp_X8_findLeast_52 Q m_divided m_divisors K_32 n) (fun v0 v1 v2 v3 v4 w0 w1 w2 w3 w4 hh => ih v0 v1 v2 v3 v4 w0 w1 w2 w3 w4 hh) m_least l1 l2 l3 l4 ((m_least (((5001 * (l2 - 1)) + l4) - l3)) + 1) r_m_least r_l1 r_l2 r_l3 r_l4 c82 h
def wp_X8_findLeast_32 (Q : (Int → Int) → Prop) (m_divided : Int) (m_divisors : Int → Int) : Nat → (Int → Int) → Int → Int → Prop
  | 0, _, _, _ => False
  | n + 1, m_least, l1, l2 => ((m_divided < l2 → Q m_least) ∧
  (¬ (m_divided < l2) → (r32 (l2 - 1) ∧ 0 ≤ (l2 - 1) ∧ (l2 - 1) < 60 ∧ ∀ x48 : Int, x48 = (m_divisors (l2 - 1)) → (∃ n0 : Nat, wp_X8_findLeast_52 Q m_divided m_divisors (wp_X8_findLeast_32 Q m_divided m_divisors n) n0 m_least l1 l2 x48 0))))
set_option maxHeartbeats 4000000 in
set_option maxRecDepth 100000 in
theorem s_X8_findLeast_32 {X : Cx} (g : Gd X cX8_findLeast RX8 none 7) (hR : X.R = rmL 1 0 0) (hX8 : Nat) (aX8_ups : Nat) (aX8_downs : Nat) (m_many : Int) (aX8_row : Nat) (m_isSpent : Int) (m_found : Int) (aX8_sumMany : Nat) (aX8_sumShares : Nat) (aX8_sumSet : Nat) (aX8_taken : Nat) (aX8_restUp : Nat) (aX8_restDown : Nat) (m_fewest : Int) (m_wishes : Int) (aX8_wished : Nat) (aX8_far : Nat) (aX8_queue : Nat) (aX8_divisors : Nat) (aX8_least : Nat) (m_pairOne : Int) (m_pairTwo : Int) (m_sumUp : Int) (m_sumDown : Int) (m_divided : Int) (m_divisors : Int → Int) (r_m_divided : r32 m_divided) (r_m_divisors : rr32 m_divisors) (Q : (Int → Int) → Prop) (hF : FQ X 0 0 (po_X8_findLeast X.cI X.cJ hX8 aX8_ups aX8_downs m_many aX8_row m_isSpent m_found aX8_sumMany aX8_sumShares aX8_sumSet aX8_taken aX8_restUp aX8_restDown m_fewest m_wishes aX8_wished aX8_far aX8_queue m_divided aX8_divisors aX8_least m_pairOne m_pairTwo m_sumUp m_sumDown m_divisors Q)) : ∀ (n : Nat) (m_least : Int → Int) (l1 : Int) (l2 : Int), rr32 m_least → r32 l1 → r32 l2 → wp_X8_findLeast_32 Q m_divided m_divisors n m_least l1 l2 → Wat X 0 0 32 [(0, .ref hX8), (1, .int (i32 l1)), (2, .int (i32 l2))] [] [(hX8, .inr (7, [.ref aX8_ups, .ref aX8_downs, .int (i32 m_many), .ref aX8_row, .int (i32 m_isSpent), .int (i32 m_found), .ref aX8_sumMany, .ref aX8_sumShares, .ref aX8_sumSet, .ref aX8_taken, .ref aX8_restUp, .ref aX8_restDown, .int (i32 m_fewest), .int (i32 m_wishes), .ref aX8_wished, .ref aX8_far, .ref aX8_queue, .int (i32 m_divided), .ref aX8_divisors, .ref aX8_least, .long (i64 m_pairOne), .long (i64 m_pairTwo), .long (i64 m_sumUp), .long (i64 m_sumDown)])), (aX8_divisors, aI X.cI 60 m_divisors), (aX8_least, aI X.cI 305061 m_least)] := by
  intro n
  induction n with
  | zero => intro m_least l1 l2 r_m_least r_l1 r_l2 h; exact False.elim h
  | succ n ih =>
    intro m_least l1 l2 r_m_least r_l1 r_l2 h
    rw [wp_X8_findLeast_32] at h
    refine q_iload_n g 2 2 rfl dX8_findLeast_32 ?_
    refine q_aload_n g 0 0 rfl dX8_findLeast_33 ?_
    refine q_get (C := RX8) (T := TX8) (N := 24) g 180 inX8 0 17 rfl rfl (by decide) wF_X8_180 rfl dX8_findLeast_34 ?_
    refine q_icmp_gt g (110) 147 r_l2 r_m_divided (by decide) dX8_findLeast_37 (fun b37 => ?_) (fun b37 => ?_)
    · replace h := h.1 b37
      exact q_vret g hF ⟨m_least, rfl, rfl, r_m_least, h⟩ dX8_findLeast_147
    replace h := h.2 b37
    refine q_aload_n g 0 0 rfl dX8_findLeast_40 ?_
    refine q_get (C := RX8) (T := TX8) (N := 24) g 51 inX8 0 18 rfl rfl (by decide) wF_X8_51 rfl dX8_findLeast_41 ?_
    refine q_iload_n g 2 2 rfl dX8_findLeast_44 ?_
    refine q_iconst g (1) dX8_findLeast_45 ?_
    obtain ⟨c46, h⟩ := h
    refine q_isub g dX8_findLeast_46 ?_
    obtain ⟨c47, h⟩ := h
    obtain ⟨e47, h⟩ := h
    refine q_iald g 1 rfl c47 e47 (by decide) dX8_findLeast_47 ?_
    refine q_topi (r_m_divisors _) (fun x48 ex48 rx48 => ?_)
    replace h := h x48 ex48
    refine q_istore_n (lv' := [(3, .int (i32 x48)), (0, .ref hX8), (1, .int (i32 l1)), (2, .int (i32 l2))]) g 3 3 rfl (by decide) rfl dX8_findLeast_48 ?_
    refine q_iconst g (0) dX8_findLeast_49 ?_
    refine q_istore (lv' := [(4, .int (i32 0)), (3, .int (i32 x48)), (0, .ref hX8), (1, .int (i32 l1)), (2, .int (i32 l2))]) g 4   (by decide) rfl dX8_findLeast_50 ?_
    refine q_lv (lv' := [(0, .ref hX8), (1, .int (i32 l1)), (2, .int (i32 l2)), (3, .int (i32 x48)), (4, .int (i32 0))]) [2, 3, 4, 1, 0] rfl ?_
    obtain ⟨n0, h⟩ := h
    exact s_X8_findLeast_52 g hR hX8 aX8_ups aX8_downs m_many aX8_row m_isSpent m_found aX8_sumMany aX8_sumShares aX8_sumSet aX8_taken aX8_restUp aX8_restDown m_fewest m_wishes aX8_wished aX8_far aX8_queue aX8_divisors aX8_least m_pairOne m_pairTwo m_sumUp m_sumDown m_divided m_divisors r_m_divided r_m_divisors Q hF (wp_X8_findLeast_32 Q m_divided m_divisors n) (fun v0 v1 v2 w0 w1 w2 hh => ih v0 v1 v2 w0 w1 w2 hh) n0 m_least l1 l2 x48 0 r_m_least r_l1 r_l2 rx48 (r32_lit _ (by decide)) h
def wp_X8_findLeast_2 (Q : (Int → Int) → Prop) (m_divided : Int) (m_divisors : Int → Int) : Nat → (Int → Int) → Int → Int → Prop
  | 0, _, _, _ => False
  | n + 1, m_least, l1, l2 => ((l1 < l2 → (∃ n0 : Nat, wp_X8_findLeast_32 Q m_divided m_divisors n0 m_least l1 1)) ∧
  (¬ (l1 < l2) → ((¬ l2 = 0 → wp_X8_findLeast_23 Q m_divided m_divisors (wp_X8_findLeast_2 Q m_divided m_divisors n) m_least l1 l2 l2 1000) ∧
  (l2 = 0 → wp_X8_findLeast_23 Q m_divided m_divisors (wp_X8_findLeast_2 Q m_divided m_divisors n) m_least l1 l2 l2 0))))
set_option maxHeartbeats 4000000 in
set_option maxRecDepth 100000 in
theorem s_X8_findLeast_2 {X : Cx} (g : Gd X cX8_findLeast RX8 none 7) (hR : X.R = rmL 1 0 0) (hX8 : Nat) (aX8_ups : Nat) (aX8_downs : Nat) (m_many : Int) (aX8_row : Nat) (m_isSpent : Int) (m_found : Int) (aX8_sumMany : Nat) (aX8_sumShares : Nat) (aX8_sumSet : Nat) (aX8_taken : Nat) (aX8_restUp : Nat) (aX8_restDown : Nat) (m_fewest : Int) (m_wishes : Int) (aX8_wished : Nat) (aX8_far : Nat) (aX8_queue : Nat) (aX8_divisors : Nat) (aX8_least : Nat) (m_pairOne : Int) (m_pairTwo : Int) (m_sumUp : Int) (m_sumDown : Int) (m_divided : Int) (m_divisors : Int → Int) (r_m_divided : r32 m_divided) (r_m_divisors : rr32 m_divisors) (Q : (Int → Int) → Prop) (hF : FQ X 0 0 (po_X8_findLeast X.cI X.cJ hX8 aX8_ups aX8_downs m_many aX8_row m_isSpent m_found aX8_sumMany aX8_sumShares aX8_sumSet aX8_taken aX8_restUp aX8_restDown m_fewest m_wishes aX8_wished aX8_far aX8_queue m_divided aX8_divisors aX8_least m_pairOne m_pairTwo m_sumUp m_sumDown m_divisors Q)) : ∀ (n : Nat) (m_least : Int → Int) (l1 : Int) (l2 : Int), rr32 m_least → r32 l1 → r32 l2 → wp_X8_findLeast_2 Q m_divided m_divisors n m_least l1 l2 → Wat X 0 0 2 [(0, .ref hX8), (1, .int (i32 l1)), (2, .int (i32 l2))] [] [(hX8, .inr (7, [.ref aX8_ups, .ref aX8_downs, .int (i32 m_many), .ref aX8_row, .int (i32 m_isSpent), .int (i32 m_found), .ref aX8_sumMany, .ref aX8_sumShares, .ref aX8_sumSet, .ref aX8_taken, .ref aX8_restUp, .ref aX8_restDown, .int (i32 m_fewest), .int (i32 m_wishes), .ref aX8_wished, .ref aX8_far, .ref aX8_queue, .int (i32 m_divided), .ref aX8_divisors, .ref aX8_least, .long (i64 m_pairOne), .long (i64 m_pairTwo), .long (i64 m_sumUp), .long (i64 m_sumDown)])), (aX8_divisors, aI X.cI 60 m_divisors), (aX8_least, aI X.cI 305061 m_least)] := by
  intro n
  induction n with
  | zero => intro m_least l1 l2 r_m_least r_l1 r_l2 h; exact False.elim h
  | succ n ih =>
    intro m_least l1 l2 r_m_least r_l1 r_l2 h
    rw [wp_X8_findLeast_2] at h
    refine q_iload_n g 2 2 rfl dX8_findLeast_2 ?_
    refine q_iload_n g 1 1 rfl dX8_findLeast_3 ?_
    refine q_icmp_gt g (26) 30 r_l2 r_l1 (by decide) dX8_findLeast_4 (fun b4 => ?_) (fun b4 => ?_)
    · replace h := h.1 b4
      refine q_iconst g (1) dX8_findLeast_30 ?_
      refine q_istore_n (lv' := [(2, .int (i32 1)), (0, .ref hX8), (1, .int (i32 l1))]) g 2 2 rfl (by decide) rfl dX8_findLeast_31 ?_
      refine q_lv (lv' := [(0, .ref hX8), (1, .int (i32 l1)), (2, .int (i32 1))]) [1, 2, 0] rfl ?_
      obtain ⟨n0, h⟩ := h
      exact s_X8_findLeast_32 g hR hX8 aX8_ups aX8_downs m_many aX8_row m_isSpent m_found aX8_sumMany aX8_sumShares aX8_sumSet aX8_taken aX8_restUp aX8_restDown m_fewest m_wishes aX8_wished aX8_far aX8_queue aX8_divisors aX8_least m_pairOne m_pairTwo m_sumUp m_sumDown m_divided m_divisors r_m_divided r_m_divisors Q hF n0 m_least l1 1 r_m_least r_l1 (r32_lit _ (by decide)) h
    replace h := h.2 b4
    refine q_aload_n g 0 0 rfl dX8_findLeast_7 ?_
    refine q_get (C := RX8) (T := TX8) (N := 24) g 55 inX8 0 19 rfl rfl (by decide) wF_X8_55 rfl dX8_findLeast_8 ?_
    refine q_iload_n g 2 2 rfl dX8_findLeast_11 ?_
    refine q_iload_n g 2 2 rfl dX8_findLeast_12 ?_
    refine q_if_ne g (7) 20 r_l2 (by decide) dX8_findLeast_13 (fun b13 => ?_) (fun b13 => ?_)
    · replace h := h.1 b13
      refine q_sipush g (1000) (by decide) (by decide) dX8_findLeast_20 ?_
      exact s_X8_findLeast_23 g hR hX8 aX8_ups aX8_downs m_many aX8_row m_isSpent m_found aX8_sumMany aX8_sumShares aX8_sumSet aX8_taken aX8_restUp aX8_restDown m_fewest m_wishes aX8_wished aX8_far aX8_queue aX8_divisors aX8_least m_pairOne m_pairTwo m_sumUp m_sumDown m_divided m_divisors r_m_divided r_m_divisors Q hF (wp_X8_findLeast_2 Q m_divided m_divisors n) (fun v0 v1 v2 w0 w1 w2 hh => ih v0 v1 v2 w0 w1 w2 hh) m_least l1 l2 l2 1000 r_m_least r_l1 r_l2 r_l2 (r32_lit _ (by decide)) h
    replace h := h.2 b13
    refine q_iconst g (0) dX8_findLeast_16 ?_
    refine q_goto g (6) 23 (by decide) dX8_findLeast_17 ?_
    exact s_X8_findLeast_23 g hR hX8 aX8_ups aX8_downs m_many aX8_row m_isSpent m_found aX8_sumMany aX8_sumShares aX8_sumSet aX8_taken aX8_restUp aX8_restDown m_fewest m_wishes aX8_wished aX8_far aX8_queue aX8_divisors aX8_least m_pairOne m_pairTwo m_sumUp m_sumDown m_divided m_divisors r_m_divided r_m_divisors Q hF (wp_X8_findLeast_2 Q m_divided m_divisors n) (fun v0 v1 v2 w0 w1 w2 hh => ih v0 v1 v2 w0 w1 w2 hh) m_least l1 l2 l2 0 r_m_least r_l1 r_l2 r_l2 (r32_lit _ (by decide)) h
def wp_X8_findLeast (Q : (Int → Int) → Prop) (m_divided : Int) (m_divisors : Int → Int) (m_least : Int → Int) (l1 : Int) : Prop := (∃ n0 : Nat, wp_X8_findLeast_2 Q m_divided m_divisors n0 m_least l1 0)
set_option maxHeartbeats 4000000 in
set_option maxRecDepth 100000 in
theorem c_X8_findLeast (l : Launch) (D : va_G) (cI cJ : ClassId) (zt : Nat) (hX8 : Nat) (aX8_ups : Nat) (aX8_downs : Nat) (m_many : Int) (aX8_row : Nat) (m_isSpent : Int) (m_found : Int) (aX8_sumMany : Nat) (aX8_sumShares : Nat) (aX8_sumSet : Nat) (aX8_taken : Nat) (aX8_restUp : Nat) (aX8_restDown : Nat) (m_fewest : Int) (m_wishes : Int) (aX8_wished : Nat) (aX8_far : Nat) (aX8_queue : Nat) (m_divided : Int) (aX8_divisors : Nat) (aX8_least : Nat) (m_pairOne : Int) (m_pairTwo : Int) (m_sumUp : Int) (m_sumDown : Int) (m_divisors : Int → Int) (m_least : Int → Int) (l1 : Int) (Q : (Int → Int) → Prop) (r_m_divided : r32 m_divided) (r_m_divisors : rr32 m_divisors) (r_m_least : rr32 m_least) (r_l1 : r32 l1) (h : wp_X8_findLeast Q m_divided m_divisors m_least l1) : Ct l D cI cJ zt yX8_findLeast cX8_findLeast 7 none 1 0 0 [.ref hX8, .int (i32 l1)] [(hX8, .inr (7, [.ref aX8_ups, .ref aX8_downs, .int (i32 m_many), .ref aX8_row, .int (i32 m_isSpent), .int (i32 m_found), .ref aX8_sumMany, .ref aX8_sumShares, .ref aX8_sumSet, .ref aX8_taken, .ref aX8_restUp, .ref aX8_restDown, .int (i32 m_fewest), .int (i32 m_wishes), .ref aX8_wished, .ref aX8_far, .ref aX8_queue, .int (i32 m_divided), .ref aX8_divisors, .ref aX8_least, .long (i64 m_pairOne), .long (i64 m_pairTwo), .long (i64 m_sumUp), .long (i64 m_sumDown)])), (aX8_divisors, aI cI 60 m_divisors), (aX8_least, aI cI 305061 m_least)] (po_X8_findLeast cI cJ hX8 aX8_ups aX8_downs m_many aX8_row m_isSpent m_found aX8_sumMany aX8_sumShares aX8_sumSet aX8_taken aX8_restUp aX8_restDown m_fewest m_wishes aX8_wished aX8_far aX8_queue m_divided aX8_divisors aX8_least m_pairOne m_pairTwo m_sumUp m_sumDown m_divisors Q) := by
  refine ct_of (by decide +kernel) (Nat.le_of_ble_eq_true rfl) (fun X hl hDD hcI hcJ hzt hR hF hnm g => ?_)
  subst hl; subst hDD; subst hcI; subst hcJ; subst hzt
  show Wat X 0 0 0 [(0, .ref hX8), (1, .int (i32 l1))] [] [(hX8, .inr (7, [.ref aX8_ups, .ref aX8_downs, .int (i32 m_many), .ref aX8_row, .int (i32 m_isSpent), .int (i32 m_found), .ref aX8_sumMany, .ref aX8_sumShares, .ref aX8_sumSet, .ref aX8_taken, .ref aX8_restUp, .ref aX8_restDown, .int (i32 m_fewest), .int (i32 m_wishes), .ref aX8_wished, .ref aX8_far, .ref aX8_queue, .int (i32 m_divided), .ref aX8_divisors, .ref aX8_least, .long (i64 m_pairOne), .long (i64 m_pairTwo), .long (i64 m_sumUp), .long (i64 m_sumDown)])), (aX8_divisors, aI X.cI 60 m_divisors), (aX8_least, aI X.cI 305061 m_least)]
  replace g : Gd X cX8_findLeast RX8 none 7 := g
  rw [wp_X8_findLeast] at h
  refine q_iconst g (0) dX8_findLeast_0 ?_
  refine q_istore_n (lv' := [(2, .int (i32 0)), (0, .ref hX8), (1, .int (i32 l1))]) g 2 2 rfl (by decide) rfl dX8_findLeast_1 ?_
  refine q_lv (lv' := [(0, .ref hX8), (1, .int (i32 l1)), (2, .int (i32 0))]) [1, 2, 0] rfl ?_
  obtain ⟨n0, h⟩ := h
  exact s_X8_findLeast_2 g hR hX8 aX8_ups aX8_downs m_many aX8_row m_isSpent m_found aX8_sumMany aX8_sumShares aX8_sumSet aX8_taken aX8_restUp aX8_restDown m_fewest m_wishes aX8_wished aX8_far aX8_queue aX8_divisors aX8_least m_pairOne m_pairTwo m_sumUp m_sumDown m_divided m_divisors r_m_divided r_m_divisors Q hF n0 m_least l1 0 r_m_least r_l1 (r32_lit _ (by decide)) h
theorem dX8_findMultiple_0 : decode cX8_findMultiple 0 = .ok (.iconst 1, 1) := by decide +kernel
theorem dX8_findMultiple_1 : decode cX8_findMultiple 1 = .ok (.istore_n 3, 1) := by decide +kernel
theorem dX8_findMultiple_2 : decode cX8_findMultiple 2 = .ok (.iload_n 3, 1) := by decide +kernel
theorem dX8_findMultiple_3 : decode cX8_findMultiple 3 = .ok (.sipush 200, 3) := by decide +kernel
theorem dX8_findMultiple_6 : decode cX8_findMultiple 6 = .ok (.if_icmp .gt 60, 3) := by decide +kernel
theorem dX8_findMultiple_9 : decode cX8_findMultiple 9 = .ok (.iload_n 2, 1) := by decide +kernel
theorem dX8_findMultiple_10 : decode cX8_findMultiple 10 = .ok (.iload_n 3, 1) := by decide +kernel
theorem dX8_findMultiple_11 : decode cX8_findMultiple 11 = .ok (.imul, 1) := by decide +kernel
theorem dX8_findMultiple_12 : decode cX8_findMultiple 12 = .ok (.sipush 5000, 3) := by decide +kernel
theorem dX8_findMultiple_15 : decode cX8_findMultiple 15 = .ok (.if_icmp .le 6, 3) := by decide +kernel
theorem dX8_findMultiple_18 : decode cX8_findMultiple 18 = .ok (.bipush (-5), 2) := by decide +kernel
theorem dX8_findMultiple_20 : decode cX8_findMultiple 20 = .ok (.ireturn, 1) := by decide +kernel
theorem dX8_findMultiple_21 : decode cX8_findMultiple 21 = .ok (.aload_n 0, 1) := by decide +kernel
theorem dX8_findMultiple_22 : decode cX8_findMultiple 22 = .ok (.iload_n 2, 1) := by decide +kernel
theorem dX8_findMultiple_23 : decode cX8_findMultiple 23 = .ok (.iload_n 3, 1) := by decide +kernel
theorem dX8_findMultiple_24 : decode cX8_findMultiple 24 = .ok (.imul, 1) := by decide +kernel
theorem dX8_findMultiple_25 : decode cX8_findMultiple 25 = .ok (.invokevirtual 183, 3) := by decide +kernel
theorem dX8_findMultiple_28 : decode cX8_findMultiple 28 = .ok (.aload_n 0, 1) := by decide +kernel
theorem dX8_findMultiple_29 : decode cX8_findMultiple 29 = .ok (.iload_n 1, 1) := by decide +kernel
theorem dX8_findMultiple_30 : decode cX8_findMultiple 30 = .ok (.iload_n 3, 1) := by decide +kernel
theorem dX8_findMultiple_31 : decode cX8_findMultiple 31 = .ok (.imul, 1) := by decide +kernel
theorem dX8_findMultiple_32 : decode cX8_findMultiple 32 = .ok (.invokevirtual 186, 3) := by decide +kernel
theorem dX8_findMultiple_35 : decode cX8_findMultiple 35 = .ok (.aload_n 0, 1) := by decide +kernel
theorem dX8_findMultiple_36 : decode cX8_findMultiple 36 = .ok (.getfield 55, 3) := by decide +kernel
theorem dX8_findMultiple_39 : decode cX8_findMultiple 39 = .ok (.sipush 5001, 3) := by decide +kernel
theorem dX8_findMultiple_42 : decode cX8_findMultiple 42 = .ok (.aload_n 0, 1) := by decide +kernel
theorem dX8_findMultiple_43 : decode cX8_findMultiple 43 = .ok (.getfield 180, 3) := by decide +kernel
theorem dX8_findMultiple_46 : decode cX8_findMultiple 46 = .ok (.imul, 1) := by decide +kernel
theorem dX8_findMultiple_47 : decode cX8_findMultiple 47 = .ok (.iload_n 1, 1) := by decide +kernel
theorem dX8_findMultiple_48 : decode cX8_findMultiple 48 = .ok (.iload_n 3, 1) := by decide +kernel
theorem dX8_findMultiple_49 : decode cX8_findMultiple 49 = .ok (.imul, 1) := by decide +kernel
theorem dX8_findMultiple_50 : decode cX8_findMultiple 50 = .ok (.iadd, 1) := by decide +kernel
theorem dX8_findMultiple_51 : decode cX8_findMultiple 51 = .ok (.iaload, 1) := by decide +kernel
theorem dX8_findMultiple_52 : decode cX8_findMultiple 52 = .ok (.sipush 1000, 3) := by decide +kernel
theorem dX8_findMultiple_55 : decode cX8_findMultiple 55 = .ok (.if_icmp .ge 5, 3) := by decide +kernel
theorem dX8_findMultiple_58 : decode cX8_findMultiple 58 = .ok (.iload_n 3, 1) := by decide +kernel
theorem dX8_findMultiple_59 : decode cX8_findMultiple 59 = .ok (.ireturn, 1) := by decide +kernel
theorem dX8_findMultiple_60 : decode cX8_findMultiple 60 = .ok (.iinc 3 1, 3) := by decide +kernel
theorem dX8_findMultiple_63 : decode cX8_findMultiple 63 = .ok (.goto (-61), 3) := by decide +kernel
theorem dX8_findMultiple_66 : decode cX8_findMultiple 66 = .ok (.bipush (-4), 2) := by decide +kernel
theorem dX8_findMultiple_68 : decode cX8_findMultiple 68 = .ok (.ireturn, 1) := by decide +kernel
abbrev po_X8_findMultiple (cI cJ : ClassId) (hX8 : Nat) (aX8_ups : Nat) (aX8_downs : Nat) (m_many : Int) (aX8_row : Nat) (m_isSpent : Int) (m_found : Int) (aX8_sumMany : Nat) (aX8_sumShares : Nat) (aX8_sumSet : Nat) (aX8_taken : Nat) (aX8_restUp : Nat) (aX8_restDown : Nat) (m_fewest : Int) (m_wishes : Int) (aX8_wished : Nat) (aX8_far : Nat) (aX8_queue : Nat) (aX8_divisors : Nat) (aX8_least : Nat) (m_pairOne : Int) (m_pairTwo : Int) (m_sumUp : Int) (m_sumDown : Int) (Q : Int → Int → (Int → Int) → (Int → Int) → Prop) : Option Value → va_W → Prop := fun rv w1 => ∃ (r0 : Int) (m_divided : Int) (m_divisors : Int → Int) (m_least : Int → Int), rv = some (.int (i32 r0)) ∧ w1 = [(hX8, .inr (7, [.ref aX8_ups, .ref aX8_downs, .int (i32 m_many), .ref aX8_row, .int (i32 m_isSpent), .int (i32 m_found), .ref aX8_sumMany, .ref aX8_sumShares, .ref aX8_sumSet, .ref aX8_taken, .ref aX8_restUp, .ref aX8_restDown, .int (i32 m_fewest), .int (i32 m_wishes), .ref aX8_wished, .ref aX8_far, .ref aX8_queue, .int (i32 m_divided), .ref aX8_divisors, .ref aX8_least, .long (i64 m_pairOne), .long (i64 m_pairTwo), .long (i64 m_sumUp), .long (i64 m_sumDown)])), (aX8_divisors, aI cI 60 m_divisors), (aX8_least, aI cI 305061 m_least)] ∧ r32 r0 ∧ r32 m_divided ∧ rr32 m_divisors ∧ rr32 m_least ∧ Q r0 m_divided m_divisors m_least
def wp_X8_findMultiple_2 (Q : Int → Int → (Int → Int) → (Int → Int) → Prop) : Nat → Int → (Int → Int) → (Int → Int) → Int → Int → Int → Prop
  | 0, _, _, _, _, _, _ => False
  | n + 1, m_divided, m_divisors, m_least, l1, l2, l3 => ((200 < l3 → Q (-4) m_divided m_divisors m_least) ∧
  (¬ (200 < l3) → (r32 (l2 * l3) ∧ (((l2 * l3) ≤ 5000 → (r32 (l2 * l3) ∧ wp_X8_findDivisors (fun (m_divided_25 : Int) (m_divisors_25 : Int → Int) => (r32 (l1 * l3) ∧ wp_X8_findLeast (fun (m_least_32 : Int → Int) => (r32 (5001 * m_divided_25) ∧ r32 (l1 * l3) ∧ r32 ((5001 * m_divided_25) + (l1 * l3)) ∧ 0 ≤ ((5001 * m_divided_25) + (l1 * l3)) ∧ ((5001 * m_divided_25) + (l1 * l3)) < 305061 ∧ ((1000 ≤ (m_least_32 ((5001 * m_divided_25) + (l1 * l3))) → (r32 (l3 + 1) ∧ wp_X8_findMultiple_2 Q n m_divided_25 m_divisors_25 m_least_32 l1 l2 (l3 + 1))) ∧
  (¬ (1000 ≤ (m_least_32 ((5001 * m_divided_25) + (l1 * l3)))) → Q l3 m_divided_25 m_divisors_25 m_least_32)))) m_divided_25 m_divisors_25 m_least (l1 * l3))) m_divided m_divisors (l2 * l3))) ∧
  (¬ ((l2 * l3) ≤ 5000) → Q (-5) m_divided m_divisors m_least)))))
set_option maxHeartbeats 4000000 in
set_option maxRecDepth 100000 in
theorem s_X8_findMultiple_2 {X : Cx} (g : Gd X cX8_findMultiple RX8 (some .int) 4) (hR : X.R = rmL 2 0 0) (hX8 : Nat) (aX8_ups : Nat) (aX8_downs : Nat) (m_many : Int) (aX8_row : Nat) (m_isSpent : Int) (m_found : Int) (aX8_sumMany : Nat) (aX8_sumShares : Nat) (aX8_sumSet : Nat) (aX8_taken : Nat) (aX8_restUp : Nat) (aX8_restDown : Nat) (m_fewest : Int) (m_wishes : Int) (aX8_wished : Nat) (aX8_far : Nat) (aX8_queue : Nat) (aX8_divisors : Nat) (aX8_least : Nat) (m_pairOne : Int) (m_pairTwo : Int) (m_sumUp : Int) (m_sumDown : Int) (Q : Int → Int → (Int → Int) → (Int → Int) → Prop) (hF : FQ X 0 0 (po_X8_findMultiple X.cI X.cJ hX8 aX8_ups aX8_downs m_many aX8_row m_isSpent m_found aX8_sumMany aX8_sumShares aX8_sumSet aX8_taken aX8_restUp aX8_restDown m_fewest m_wishes aX8_wished aX8_far aX8_queue aX8_divisors aX8_least m_pairOne m_pairTwo m_sumUp m_sumDown Q)) : ∀ (n : Nat) (m_divided : Int) (m_divisors : Int → Int) (m_least : Int → Int) (l1 : Int) (l2 : Int) (l3 : Int), r32 m_divided → rr32 m_divisors → rr32 m_least → r32 l1 → r32 l2 → r32 l3 → wp_X8_findMultiple_2 Q n m_divided m_divisors m_least l1 l2 l3 → Wat X 0 0 2 [(0, .ref hX8), (1, .int (i32 l1)), (2, .int (i32 l2)), (3, .int (i32 l3))] [] [(hX8, .inr (7, [.ref aX8_ups, .ref aX8_downs, .int (i32 m_many), .ref aX8_row, .int (i32 m_isSpent), .int (i32 m_found), .ref aX8_sumMany, .ref aX8_sumShares, .ref aX8_sumSet, .ref aX8_taken, .ref aX8_restUp, .ref aX8_restDown, .int (i32 m_fewest), .int (i32 m_wishes), .ref aX8_wished, .ref aX8_far, .ref aX8_queue, .int (i32 m_divided), .ref aX8_divisors, .ref aX8_least, .long (i64 m_pairOne), .long (i64 m_pairTwo), .long (i64 m_sumUp), .long (i64 m_sumDown)])), (aX8_divisors, aI X.cI 60 m_divisors), (aX8_least, aI X.cI 305061 m_least)] := by
  intro n
  induction n with
  | zero => intro m_divided m_divisors m_least l1 l2 l3 r_m_divided r_m_divisors r_m_least r_l1 r_l2 r_l3 h; exact False.elim h
  | succ n ih =>
    intro m_divided m_divisors m_least l1 l2 l3 r_m_divided r_m_divisors r_m_least r_l1 r_l2 r_l3 h
    rw [wp_X8_findMultiple_2] at h
    refine q_iload_n g 3 3 rfl dX8_findMultiple_2 ?_
    refine q_sipush g (200) (by decide) (by decide) dX8_findMultiple_3 ?_
    refine q_icmp_gt g (60) 66 r_l3 (r32_lit _ (by decide)) (by decide) dX8_findMultiple_6 (fun b6 => ?_) (fun b6 => ?_)
    · replace h := h.1 b6
      refine q_bipush g (-4) (by decide) (by decide) dX8_findMultiple_66 ?_
      exact q_iret g hF ⟨(-4), m_divided, m_divisors, m_least, rfl, rfl, (r32_lit _ (by decide)), r_m_divided, r_m_divisors, r_m_least, h⟩ dX8_findMultiple_68
    replace h := h.2 b6
    refine q_iload_n g 2 2 rfl dX8_findMultiple_9 ?_
    refine q_iload_n g 3 3 rfl dX8_findMultiple_10 ?_
    obtain ⟨c11, h⟩ := h
    refine q_imul g dX8_findMultiple_11 ?_
    refine q_sipush g (5000) (by decide) (by decide) dX8_findMultiple_12 ?_
    refine q_icmp_le g (6) 21 c11 (r32_lit _ (by decide)) (by decide) dX8_findMultiple_15 (fun b15 => ?_) (fun b15 => ?_)
    · replace h := h.1 b15
      refine q_aload_n g 0 0 rfl dX8_findMultiple_21 ?_
      refine q_iload_n g 2 2 rfl dX8_findMultiple_22 ?_
      refine q_iload_n g 3 3 rfl dX8_findMultiple_23 ?_
      obtain ⟨c24, h⟩ := h
      refine q_imul g dX8_findMultiple_24 ?_
      refine q_callV (lev := 1) (mc := 0) (ms := 0) g 183 (c_X8_findDivisors X.l X.D X.cI X.cJ X.zt hX8 aX8_ups aX8_downs m_many aX8_row m_isSpent m_found aX8_sumMany aX8_sumShares aX8_sumSet aX8_taken aX8_restUp aX8_restDown m_fewest m_wishes aX8_wished aX8_far aX8_queue m_divided aX8_divisors aX8_least m_pairOne m_pairTwo m_sumUp m_sumDown m_divisors (l2 * l3) _ r_m_divided r_m_divisors c24 h) (wr := [(aX8_least, aI X.cI 305061 m_least)]) [0, 1] [2] rfl rfl rfl (by decide) (by decide) (by decide) (ci := 7) rfl rfl rfl wM_X8_183 wI_X8_findDivisors wS_X8_findDivisors wZ_X8 wC_X8_findDivisors 1 rfl (by decide +kernel) (by rw [hR]; exact ⟨by show 1 + 1 ≤ 2; omega, by show 8 + (3 + 11) + 100 * 1 ≤ 100 * 2; omega⟩) (by rw [hR]; exact ⟨Nat.le_refl _, Nat.le_refl _⟩) (Nat.le_of_ble_eq_true rfl) rfl dX8_findMultiple_25 (fun rv w1 hq => ?_)
      obtain ⟨m_divided_25, m_divisors_25, rfl, rfl, rm_divided_25, rm_divisors_25, h⟩ := hq
      refine q_ws (ws' := [(hX8, .inr (7, [.ref aX8_ups, .ref aX8_downs, .int (i32 m_many), .ref aX8_row, .int (i32 m_isSpent), .int (i32 m_found), .ref aX8_sumMany, .ref aX8_sumShares, .ref aX8_sumSet, .ref aX8_taken, .ref aX8_restUp, .ref aX8_restDown, .int (i32 m_fewest), .int (i32 m_wishes), .ref aX8_wished, .ref aX8_far, .ref aX8_queue, .int (i32 m_divided_25), .ref aX8_divisors, .ref aX8_least, .long (i64 m_pairOne), .long (i64 m_pairTwo), .long (i64 m_sumUp), .long (i64 m_sumDown)])), (aX8_divisors, aI X.cI 60 m_divisors_25), (aX8_least, aI X.cI 305061 m_least)]) [1, 2, 0] (by decide) rfl rfl ?_
      show Wat X 0 0 28 [(0, .ref hX8), (1, .int (i32 l1)), (2, .int (i32 l2)), (3, .int (i32 l3))] [] [(hX8, .inr (7, [.ref aX8_ups, .ref aX8_downs, .int (i32 m_many), .ref aX8_row, .int (i32 m_isSpent), .int (i32 m_found), .ref aX8_sumMany, .ref aX8_sumShares, .ref aX8_sumSet, .ref aX8_taken, .ref aX8_restUp, .ref aX8_restDown, .int (i32 m_fewest), .int (i32 m_wishes), .ref aX8_wished, .ref aX8_far, .ref aX8_queue, .int (i32 m_divided_25), .ref aX8_divisors, .ref aX8_least, .long (i64 m_pairOne), .long (i64 m_pairTwo), .long (i64 m_sumUp), .long (i64 m_sumDown)])), (aX8_divisors, aI X.cI 60 m_divisors_25), (aX8_least, aI X.cI 305061 m_least)]
      refine q_aload_n g 0 0 rfl dX8_findMultiple_28 ?_
      refine q_iload_n g 1 1 rfl dX8_findMultiple_29 ?_
      refine q_iload_n g 3 3 rfl dX8_findMultiple_30 ?_
      obtain ⟨c31, h⟩ := h
      refine q_imul g dX8_findMultiple_31 ?_
      refine q_callV (lev := 1) (mc := 0) (ms := 0) g 186 (c_X8_findLeast X.l X.D X.cI X.cJ X.zt hX8 aX8_ups aX8_downs m_many aX8_row m_isSpent m_found aX8_sumMany aX8_sumShares aX8_sumSet aX8_taken aX8_restUp aX8_restDown m_fewest m_wishes aX8_wished aX8_far aX8_queue m_divided_25 aX8_divisors aX8_least m_pairOne m_pairTwo m_sumUp m_sumDown m_divisors_25 m_least (l1 * l3) _ rm_divided_25 rm_divisors_25 r_m_least c31 h) (wr := []) [0, 1, 2] [] rfl rfl rfl (by decide) (by decide) (by decide) (ci := 7) rfl rfl rfl wM_X8_186 wI_X8_findLeast wS_X8_findLeast wZ_X8 wC_X8_findLeast 1 rfl (by decide +kernel) (by rw [hR]; exact ⟨by show 1 + 1 ≤ 2; omega, by show 8 + (7 + 11) + 100 * 1 ≤ 100 * 2; omega⟩) (by rw [hR]; exact ⟨Nat.le_refl _, Nat.le_refl _⟩) (Nat.le_of_ble_eq_true rfl) rfl dX8_findMultiple_32 (fun rv w1 hq => ?_)
      obtain ⟨m_least_32, rfl, rfl, rm_least_32, h⟩ := hq
      show Wat X 0 0 35 [(0, .ref hX8), (1, .int (i32 l1)), (2, .int (i32 l2)), (3, .int (i32 l3))] [] [(hX8, .inr (7, [.ref aX8_ups, .ref aX8_downs, .int (i32 m_many), .ref aX8_row, .int (i32 m_isSpent), .int (i32 m_found), .ref aX8_sumMany, .ref aX8_sumShares, .ref aX8_sumSet, .ref aX8_taken, .ref aX8_restUp, .ref aX8_restDown, .int (i32 m_fewest), .int (i32 m_wishes), .ref aX8_wished, .ref aX8_far, .ref aX8_queue, .int (i32 m_divided_25), .ref aX8_divisors, .ref aX8_least, .long (i64 m_pairOne), .long (i64 m_pairTwo), .long (i64 m_sumUp), .long (i64 m_sumDown)])), (aX8_divisors, aI X.cI 60 m_divisors_25), (aX8_least, aI X.cI 305061 m_least_32)]
      refine q_aload_n g 0 0 rfl dX8_findMultiple_35 ?_
      refine q_get (C := RX8) (T := TX8) (N := 24) g 55 inX8 0 19 rfl rfl (by decide) wF_X8_55 rfl dX8_findMultiple_36 ?_
      refine q_sipush g (5001) (by decide) (by decide) dX8_findMultiple_39 ?_
      refine q_aload_n g 0 0 rfl dX8_findMultiple_42 ?_
      refine q_get (C := RX8) (T := TX8) (N := 24) g 180 inX8 0 17 rfl rfl (by decide) wF_X8_180 rfl dX8_findMultiple_43 ?_
      obtain ⟨c46, h⟩ := h
      refine q_imul g dX8_findMultiple_46 ?_
      refine q_iload_n g 1 1 rfl dX8_findMultiple_47 ?_
      refine q_iload_n g 3 3 rfl dX8_findMultiple_48 ?_
      obtain ⟨c49, h⟩ := h
      refine q_imul g dX8_findMultiple_49 ?_
      obtain ⟨c50, h⟩ := h
      refine q_iadd g dX8_findMultiple_50 ?_
      obtain ⟨c51, h⟩ := h
      obtain ⟨e51, h⟩ := h
      refine q_iald g 2 rfl c51 e51 (by decide) dX8_findMultiple_51 ?_
      refine q_sipush g (1000) (by decide) (by decide) dX8_findMultiple_52 ?_
      refine q_icmp_ge g (5) 60 (rm_least_32 _) (r32_lit _ (by decide)) (by decide) dX8_findMultiple_55 (fun b55 => ?_) (fun b55 => ?_)
      · replace h := h.1 b55
        obtain ⟨c60, h⟩ := h
        refine q_iinc (lv' := [(3, .int (i32 (l3 + 1))), (0, .ref hX8), (1, .int (i32 l1)), (2, .int (i32 l2))]) g 3 3 1 (by decide) rfl rfl dX8_findMultiple_60 ?_
        refine q_goto g (-61) 2 (by decide) dX8_findMultiple_63 ?_
        refine q_lv (lv' := [(0, .ref hX8), (1, .int (i32 l1)), (2, .int (i32 l2)), (3, .int (i32 (l3 + 1)))]) [1, 2, 3, 0] rfl ?_
        exact ih m_divided_25 m_divisors_25 m_least_32 l1 l2 (l3 + 1) rm_divided_25 rm_divisors_25 rm_least_32 r_l1 r_l2 c60 h
      replace h := h.2 b55
      refine q_iload_n g 3 3 rfl dX8_findMultiple_58 ?_
      exact q_iret g hF ⟨l3, m_divided_25, m_divisors_25, m_least_32, rfl, rfl, r_l3, rm_divided_25, rm_divisors_25, rm_least_32, h⟩ dX8_findMultiple_59
    replace h := h.2 b15
    refine q_bipush g (-5) (by decide) (by decide) dX8_findMultiple_18 ?_
    exact q_iret g hF ⟨(-5), m_divided, m_divisors, m_least, rfl, rfl, (r32_lit _ (by decide)), r_m_divided, r_m_divisors, r_m_least, h⟩ dX8_findMultiple_20
def wp_X8_findMultiple (Q : Int → Int → (Int → Int) → (Int → Int) → Prop) (m_divided : Int) (m_divisors : Int → Int) (m_least : Int → Int) (l1 : Int) (l2 : Int) : Prop := (∃ n0 : Nat, wp_X8_findMultiple_2 Q n0 m_divided m_divisors m_least l1 l2 1)
set_option maxHeartbeats 4000000 in
set_option maxRecDepth 100000 in
theorem c_X8_findMultiple (l : Launch) (D : va_G) (cI cJ : ClassId) (zt : Nat) (hX8 : Nat) (aX8_ups : Nat) (aX8_downs : Nat) (m_many : Int) (aX8_row : Nat) (m_isSpent : Int) (m_found : Int) (aX8_sumMany : Nat) (aX8_sumShares : Nat) (aX8_sumSet : Nat) (aX8_taken : Nat) (aX8_restUp : Nat) (aX8_restDown : Nat) (m_fewest : Int) (m_wishes : Int) (aX8_wished : Nat) (aX8_far : Nat) (aX8_queue : Nat) (m_divided : Int) (aX8_divisors : Nat) (aX8_least : Nat) (m_pairOne : Int) (m_pairTwo : Int) (m_sumUp : Int) (m_sumDown : Int) (m_divisors : Int → Int) (m_least : Int → Int) (l1 : Int) (l2 : Int) (Q : Int → Int → (Int → Int) → (Int → Int) → Prop) (r_m_divided : r32 m_divided) (r_m_divisors : rr32 m_divisors) (r_m_least : rr32 m_least) (r_l1 : r32 l1) (r_l2 : r32 l2) (h : wp_X8_findMultiple Q m_divided m_divisors m_least l1 l2) : Ct l D cI cJ zt yX8_findMultiple cX8_findMultiple 4 (some .int) 2 0 0 [.ref hX8, .int (i32 l1), .int (i32 l2)] [(hX8, .inr (7, [.ref aX8_ups, .ref aX8_downs, .int (i32 m_many), .ref aX8_row, .int (i32 m_isSpent), .int (i32 m_found), .ref aX8_sumMany, .ref aX8_sumShares, .ref aX8_sumSet, .ref aX8_taken, .ref aX8_restUp, .ref aX8_restDown, .int (i32 m_fewest), .int (i32 m_wishes), .ref aX8_wished, .ref aX8_far, .ref aX8_queue, .int (i32 m_divided), .ref aX8_divisors, .ref aX8_least, .long (i64 m_pairOne), .long (i64 m_pairTwo), .long (i64 m_sumUp), .long (i64 m_sumDown)])), (aX8_divisors, aI cI 60 m_divisors), (aX8_least, aI cI 305061 m_least)] (po_X8_findMultiple cI cJ hX8 aX8_ups aX8_downs m_many aX8_row m_isSpent m_found aX8_sumMany aX8_sumShares aX8_sumSet aX8_taken aX8_restUp aX8_restDown m_fewest m_wishes aX8_wished aX8_far aX8_queue aX8_divisors aX8_least m_pairOne m_pairTwo m_sumUp m_sumDown Q) := by
  refine ct_of (by decide +kernel) (Nat.le_of_ble_eq_true rfl) (fun X hl hDD hcI hcJ hzt hR hF hnm g => ?_)
  subst hl; subst hDD; subst hcI; subst hcJ; subst hzt
  show Wat X 0 0 0 [(0, .ref hX8), (1, .int (i32 l1)), (2, .int (i32 l2))] [] [(hX8, .inr (7, [.ref aX8_ups, .ref aX8_downs, .int (i32 m_many), .ref aX8_row, .int (i32 m_isSpent), .int (i32 m_found), .ref aX8_sumMany, .ref aX8_sumShares, .ref aX8_sumSet, .ref aX8_taken, .ref aX8_restUp, .ref aX8_restDown, .int (i32 m_fewest), .int (i32 m_wishes), .ref aX8_wished, .ref aX8_far, .ref aX8_queue, .int (i32 m_divided), .ref aX8_divisors, .ref aX8_least, .long (i64 m_pairOne), .long (i64 m_pairTwo), .long (i64 m_sumUp), .long (i64 m_sumDown)])), (aX8_divisors, aI X.cI 60 m_divisors), (aX8_least, aI X.cI 305061 m_least)]
  replace g : Gd X cX8_findMultiple RX8 (some .int) 4 := g
  rw [wp_X8_findMultiple] at h
  refine q_iconst g (1) dX8_findMultiple_0 ?_
  refine q_istore_n (lv' := [(3, .int (i32 1)), (0, .ref hX8), (1, .int (i32 l1)), (2, .int (i32 l2))]) g 3 3 rfl (by decide) rfl dX8_findMultiple_1 ?_
  refine q_lv (lv' := [(0, .ref hX8), (1, .int (i32 l1)), (2, .int (i32 l2)), (3, .int (i32 1))]) [1, 2, 3, 0] rfl ?_
  obtain ⟨n0, h⟩ := h
  exact s_X8_findMultiple_2 g hR hX8 aX8_ups aX8_downs m_many aX8_row m_isSpent m_found aX8_sumMany aX8_sumShares aX8_sumSet aX8_taken aX8_restUp aX8_restDown m_fewest m_wishes aX8_wished aX8_far aX8_queue aX8_divisors aX8_least m_pairOne m_pairTwo m_sumUp m_sumDown Q hF n0 m_divided m_divisors m_least l1 l2 1 r_m_divided r_m_divisors r_m_least r_l1 r_l2 (r32_lit _ (by decide)) h
theorem dX8_multipleOf_0 : decode cX8_multipleOf 0 = .ok (.aload_n 0, 1) := by decide +kernel
theorem dX8_multipleOf_1 : decode cX8_multipleOf 1 = .ok (.iload_n 1, 1) := by decide +kernel
theorem dX8_multipleOf_2 : decode cX8_multipleOf 2 = .ok (.invokevirtual 148, 3) := by decide +kernel
theorem dX8_multipleOf_5 : decode cX8_multipleOf 5 = .ok (.ifCond .ne 6, 3) := by decide +kernel
theorem dX8_multipleOf_8 : decode cX8_multipleOf 8 = .ok (.bipush (-2), 2) := by decide +kernel
theorem dX8_multipleOf_10 : decode cX8_multipleOf 10 = .ok (.ireturn, 1) := by decide +kernel
theorem dX8_multipleOf_11 : decode cX8_multipleOf 11 = .ok (.aload_n 0, 1) := by decide +kernel
theorem dX8_multipleOf_12 : decode cX8_multipleOf 12 = .ok (.getfield 13, 3) := by decide +kernel
theorem dX8_multipleOf_15 : decode cX8_multipleOf 15 = .ok (.iload_n 1, 1) := by decide +kernel
theorem dX8_multipleOf_16 : decode cX8_multipleOf 16 = .ok (.iaload, 1) := by decide +kernel
theorem dX8_multipleOf_17 : decode cX8_multipleOf 17 = .ok (.sipush 5000, 3) := by decide +kernel
theorem dX8_multipleOf_20 : decode cX8_multipleOf 20 = .ok (.if_icmp .le 8, 3) := by decide +kernel
theorem dX8_multipleOf_23 : decode cX8_multipleOf 23 = .ok (.bipush (-5), 2) := by decide +kernel
theorem dX8_multipleOf_25 : decode cX8_multipleOf 25 = .ok (.goto 19, 3) := by decide +kernel
theorem dX8_multipleOf_28 : decode cX8_multipleOf 28 = .ok (.aload_n 0, 1) := by decide +kernel
theorem dX8_multipleOf_29 : decode cX8_multipleOf 29 = .ok (.aload_n 0, 1) := by decide +kernel
theorem dX8_multipleOf_30 : decode cX8_multipleOf 30 = .ok (.getfield 7, 3) := by decide +kernel
theorem dX8_multipleOf_33 : decode cX8_multipleOf 33 = .ok (.iload_n 1, 1) := by decide +kernel
theorem dX8_multipleOf_34 : decode cX8_multipleOf 34 = .ok (.iaload, 1) := by decide +kernel
theorem dX8_multipleOf_35 : decode cX8_multipleOf 35 = .ok (.aload_n 0, 1) := by decide +kernel
theorem dX8_multipleOf_36 : decode cX8_multipleOf 36 = .ok (.getfield 13, 3) := by decide +kernel
theorem dX8_multipleOf_39 : decode cX8_multipleOf 39 = .ok (.iload_n 1, 1) := by decide +kernel
theorem dX8_multipleOf_40 : decode cX8_multipleOf 40 = .ok (.iaload, 1) := by decide +kernel
theorem dX8_multipleOf_41 : decode cX8_multipleOf 41 = .ok (.invokevirtual 189, 3) := by decide +kernel
theorem dX8_multipleOf_44 : decode cX8_multipleOf 44 = .ok (.ireturn, 1) := by decide +kernel
abbrev po_X8_multipleOf (cI cJ : ClassId) (hX8 : Nat) (aX8_ups : Nat) (aX8_downs : Nat) (m_many : Int) (aX8_row : Nat) (m_isSpent : Int) (m_found : Int) (aX8_sumMany : Nat) (aX8_sumShares : Nat) (aX8_sumSet : Nat) (aX8_taken : Nat) (aX8_restUp : Nat) (aX8_restDown : Nat) (m_fewest : Int) (m_wishes : Int) (aX8_wished : Nat) (aX8_far : Nat) (aX8_queue : Nat) (aX8_divisors : Nat) (aX8_least : Nat) (m_pairOne : Int) (m_pairTwo : Int) (m_sumUp : Int) (m_sumDown : Int) (m_ups : Int → Int) (m_downs : Int → Int) (Q : Int → Int → (Int → Int) → (Int → Int) → Prop) : Option Value → va_W → Prop := fun rv w1 => ∃ (r0 : Int) (m_divided : Int) (m_divisors : Int → Int) (m_least : Int → Int), rv = some (.int (i32 r0)) ∧ w1 = [(hX8, .inr (7, [.ref aX8_ups, .ref aX8_downs, .int (i32 m_many), .ref aX8_row, .int (i32 m_isSpent), .int (i32 m_found), .ref aX8_sumMany, .ref aX8_sumShares, .ref aX8_sumSet, .ref aX8_taken, .ref aX8_restUp, .ref aX8_restDown, .int (i32 m_fewest), .int (i32 m_wishes), .ref aX8_wished, .ref aX8_far, .ref aX8_queue, .int (i32 m_divided), .ref aX8_divisors, .ref aX8_least, .long (i64 m_pairOne), .long (i64 m_pairTwo), .long (i64 m_sumUp), .long (i64 m_sumDown)])), (aX8_ups, aI cI 8 m_ups), (aX8_downs, aI cI 8 m_downs), (aX8_divisors, aI cI 60 m_divisors), (aX8_least, aI cI 305061 m_least)] ∧ r32 r0 ∧ r32 m_divided ∧ rr32 m_divisors ∧ rr32 m_least ∧ Q r0 m_divided m_divisors m_least
def wp_X8_multipleOf_44 (Q : Int → Int → (Int → Int) → (Int → Int) → Prop) (m_ups : Int → Int) (m_downs : Int → Int) (m_divided : Int) (m_divisors : Int → Int) (m_least : Int → Int) (k0 : Int) : Prop := Q k0 m_divided m_divisors m_least
set_option maxHeartbeats 4000000 in
set_option maxRecDepth 100000 in
theorem s_X8_multipleOf_44 {X : Cx} (g : Gd X cX8_multipleOf RX8 (some .int) 2) (hR : X.R = rmL 3 0 0) (hX8 : Nat) (aX8_ups : Nat) (aX8_downs : Nat) (m_many : Int) (aX8_row : Nat) (m_isSpent : Int) (m_found : Int) (aX8_sumMany : Nat) (aX8_sumShares : Nat) (aX8_sumSet : Nat) (aX8_taken : Nat) (aX8_restUp : Nat) (aX8_restDown : Nat) (m_fewest : Int) (m_wishes : Int) (aX8_wished : Nat) (aX8_far : Nat) (aX8_queue : Nat) (aX8_divisors : Nat) (aX8_least : Nat) (m_pairOne : Int) (m_pairTwo : Int) (m_sumUp : Int) (m_sumDown : Int) (m_ups : Int → Int) (m_downs : Int → Int) (r_m_ups : rr32 m_ups) (r_m_downs : rr32 m_downs) (Q : Int → Int → (Int → Int) → (Int → Int) → Prop) (hF : FQ X 0 0 (po_X8_multipleOf X.cI X.cJ hX8 aX8_ups aX8_downs m_many aX8_row m_isSpent m_found aX8_sumMany aX8_sumShares aX8_sumSet aX8_taken aX8_restUp aX8_restDown m_fewest m_wishes aX8_wished aX8_far aX8_queue aX8_divisors aX8_least m_pairOne m_pairTwo m_sumUp m_sumDown m_ups m_downs Q)) : ∀ (m_divided : Int) (m_divisors : Int → Int) (m_least : Int → Int) (k0 : Int), r32 m_divided → rr32 m_divisors → rr32 m_least → r32 k0 → wp_X8_multipleOf_44 Q m_ups m_downs m_divided m_divisors m_least k0 → Wat X 0 0 44 [] [.int (i32 k0)] [(hX8, .inr (7, [.ref aX8_ups, .ref aX8_downs, .int (i32 m_many), .ref aX8_row, .int (i32 m_isSpent), .int (i32 m_found), .ref aX8_sumMany, .ref aX8_sumShares, .ref aX8_sumSet, .ref aX8_taken, .ref aX8_restUp, .ref aX8_restDown, .int (i32 m_fewest), .int (i32 m_wishes), .ref aX8_wished, .ref aX8_far, .ref aX8_queue, .int (i32 m_divided), .ref aX8_divisors, .ref aX8_least, .long (i64 m_pairOne), .long (i64 m_pairTwo), .long (i64 m_sumUp), .long (i64 m_sumDown)])), (aX8_ups, aI X.cI 8 m_ups), (aX8_downs, aI X.cI 8 m_downs), (aX8_divisors, aI X.cI 60 m_divisors), (aX8_least, aI X.cI 305061 m_least)] := by
  intro m_divided m_divisors m_least k0 r_m_divided r_m_divisors r_m_least r_k0 h
  rw [wp_X8_multipleOf_44] at h
  exact q_iret g hF ⟨k0, m_divided, m_divisors, m_least, rfl, rfl, r_k0, r_m_divided, r_m_divisors, r_m_least, h⟩ dX8_multipleOf_44
def wp_X8_multipleOf (Q : Int → Int → (Int → Int) → (Int → Int) → Prop) (m_ups : Int → Int) (m_downs : Int → Int) (m_divided : Int) (m_divisors : Int → Int) (m_least : Int → Int) (l1 : Int) : Prop := wp_X8_isPart (fun (x2 : Int) => ((¬ x2 = 0 → (0 ≤ l1 ∧ l1 < 8 ∧ (((m_downs l1) ≤ 5000 → (0 ≤ l1 ∧ l1 < 8 ∧ 0 ≤ l1 ∧ l1 < 8 ∧ wp_X8_findMultiple (fun (x41 : Int) (m_divided_41 : Int) (m_divisors_41 : Int → Int) (m_least_41 : Int → Int) => wp_X8_multipleOf_44 Q m_ups m_downs m_divided_41 m_divisors_41 m_least_41 x41) m_divided m_divisors m_least (m_ups l1) (m_downs l1))) ∧
  (¬ ((m_downs l1) ≤ 5000) → wp_X8_multipleOf_44 Q m_ups m_downs m_divided m_divisors m_least (-5))))) ∧
  (x2 = 0 → Q (-2) m_divided m_divisors m_least))) m_ups m_downs l1
set_option maxHeartbeats 4000000 in
set_option maxRecDepth 100000 in
theorem c_X8_multipleOf (l : Launch) (D : va_G) (cI cJ : ClassId) (zt : Nat) (hX8 : Nat) (aX8_ups : Nat) (aX8_downs : Nat) (m_many : Int) (aX8_row : Nat) (m_isSpent : Int) (m_found : Int) (aX8_sumMany : Nat) (aX8_sumShares : Nat) (aX8_sumSet : Nat) (aX8_taken : Nat) (aX8_restUp : Nat) (aX8_restDown : Nat) (m_fewest : Int) (m_wishes : Int) (aX8_wished : Nat) (aX8_far : Nat) (aX8_queue : Nat) (m_divided : Int) (aX8_divisors : Nat) (aX8_least : Nat) (m_pairOne : Int) (m_pairTwo : Int) (m_sumUp : Int) (m_sumDown : Int) (m_ups : Int → Int) (m_downs : Int → Int) (m_divisors : Int → Int) (m_least : Int → Int) (l1 : Int) (Q : Int → Int → (Int → Int) → (Int → Int) → Prop) (r_m_ups : rr32 m_ups) (r_m_downs : rr32 m_downs) (r_m_divided : r32 m_divided) (r_m_divisors : rr32 m_divisors) (r_m_least : rr32 m_least) (r_l1 : r32 l1) (h : wp_X8_multipleOf Q m_ups m_downs m_divided m_divisors m_least l1) : Ct l D cI cJ zt yX8_multipleOf cX8_multipleOf 2 (some .int) 3 0 0 [.ref hX8, .int (i32 l1)] [(hX8, .inr (7, [.ref aX8_ups, .ref aX8_downs, .int (i32 m_many), .ref aX8_row, .int (i32 m_isSpent), .int (i32 m_found), .ref aX8_sumMany, .ref aX8_sumShares, .ref aX8_sumSet, .ref aX8_taken, .ref aX8_restUp, .ref aX8_restDown, .int (i32 m_fewest), .int (i32 m_wishes), .ref aX8_wished, .ref aX8_far, .ref aX8_queue, .int (i32 m_divided), .ref aX8_divisors, .ref aX8_least, .long (i64 m_pairOne), .long (i64 m_pairTwo), .long (i64 m_sumUp), .long (i64 m_sumDown)])), (aX8_ups, aI cI 8 m_ups), (aX8_downs, aI cI 8 m_downs), (aX8_divisors, aI cI 60 m_divisors), (aX8_least, aI cI 305061 m_least)] (po_X8_multipleOf cI cJ hX8 aX8_ups aX8_downs m_many aX8_row m_isSpent m_found aX8_sumMany aX8_sumShares aX8_sumSet aX8_taken aX8_restUp aX8_restDown m_fewest m_wishes aX8_wished aX8_far aX8_queue aX8_divisors aX8_least m_pairOne m_pairTwo m_sumUp m_sumDown m_ups m_downs Q) := by
  refine ct_of (by decide +kernel) (Nat.le_of_ble_eq_true rfl) (fun X hl hDD hcI hcJ hzt hR hF hnm g => ?_)
  subst hl; subst hDD; subst hcI; subst hcJ; subst hzt
  show Wat X 0 0 0 [(0, .ref hX8), (1, .int (i32 l1))] [] [(hX8, .inr (7, [.ref aX8_ups, .ref aX8_downs, .int (i32 m_many), .ref aX8_row, .int (i32 m_isSpent), .int (i32 m_found), .ref aX8_sumMany, .ref aX8_sumShares, .ref aX8_sumSet, .ref aX8_taken, .ref aX8_restUp, .ref aX8_restDown, .int (i32 m_fewest), .int (i32 m_wishes), .ref aX8_wished, .ref aX8_far, .ref aX8_queue, .int (i32 m_divided), .ref aX8_divisors, .ref aX8_least, .long (i64 m_pairOne), .long (i64 m_pairTwo), .long (i64 m_sumUp), .long (i64 m_sumDown)])), (aX8_ups, aI X.cI 8 m_ups), (aX8_downs, aI X.cI 8 m_downs), (aX8_divisors, aI X.cI 60 m_divisors), (aX8_least, aI X.cI 305061 m_least)]
  replace g : Gd X cX8_multipleOf RX8 (some .int) 2 := g
  rw [wp_X8_multipleOf] at h
  refine q_aload_n g 0 0 rfl dX8_multipleOf_0 ?_
  refine q_iload_n g 1 1 rfl dX8_multipleOf_1 ?_
  refine q_callV (lev := 1) (mc := 0) (ms := 0) g 148 (c_X8_isPart X.l X.D X.cI X.cJ X.zt hX8 aX8_ups aX8_downs m_many aX8_row m_isSpent m_found aX8_sumMany aX8_sumShares aX8_sumSet aX8_taken aX8_restUp aX8_restDown m_fewest m_wishes aX8_wished aX8_far aX8_queue m_divided aX8_divisors aX8_least m_pairOne m_pairTwo m_sumUp m_sumDown m_ups m_downs l1 _ r_m_ups r_m_downs r_l1 h) (wr := [(aX8_divisors, aI X.cI 60 m_divisors), (aX8_least, aI X.cI 305061 m_least)]) [0, 1, 2] [3, 4] rfl rfl rfl (by decide) (by decide) (by decide) (ci := 7) rfl rfl rfl wM_X8_148 wI_X8_isPart wS_X8_isPart wZ_X8 wC_X8_isPart 1 rfl (by decide +kernel) (by rw [hR]; exact ⟨by show 1 + 1 ≤ 3; omega, by show 8 + (2 + 11) + 100 * 1 ≤ 100 * 3; omega⟩) (by rw [hR]; exact ⟨Nat.le_refl _, Nat.le_refl _⟩) (Nat.le_of_ble_eq_true rfl) rfl dX8_multipleOf_2 (fun rv w1 hq => ?_)
  obtain ⟨x2, rfl, rfl, rx2, h⟩ := hq
  refine q_ws (ws' := [(hX8, .inr (7, [.ref aX8_ups, .ref aX8_downs, .int (i32 m_many), .ref aX8_row, .int (i32 m_isSpent), .int (i32 m_found), .ref aX8_sumMany, .ref aX8_sumShares, .ref aX8_sumSet, .ref aX8_taken, .ref aX8_restUp, .ref aX8_restDown, .int (i32 m_fewest), .int (i32 m_wishes), .ref aX8_wished, .ref aX8_far, .ref aX8_queue, .int (i32 m_divided), .ref aX8_divisors, .ref aX8_least, .long (i64 m_pairOne), .long (i64 m_pairTwo), .long (i64 m_sumUp), .long (i64 m_sumDown)])), (aX8_ups, aI X.cI 8 m_ups), (aX8_downs, aI X.cI 8 m_downs), (aX8_divisors, aI X.cI 60 m_divisors), (aX8_least, aI X.cI 305061 m_least)]) [2, 3, 4, 0, 1] (by decide) rfl rfl ?_
  show Wat X 0 0 5 [(0, .ref hX8), (1, .int (i32 l1))] [.int (i32 x2)] [(hX8, .inr (7, [.ref aX8_ups, .ref aX8_downs, .int (i32 m_many), .ref aX8_row, .int (i32 m_isSpent), .int (i32 m_found), .ref aX8_sumMany, .ref aX8_sumShares, .ref aX8_sumSet, .ref aX8_taken, .ref aX8_restUp, .ref aX8_restDown, .int (i32 m_fewest), .int (i32 m_wishes), .ref aX8_wished, .ref aX8_far, .ref aX8_queue, .int (i32 m_divided), .ref aX8_divisors, .ref aX8_least, .long (i64 m_pairOne), .long (i64 m_pairTwo), .long (i64 m_sumUp), .long (i64 m_sumDown)])), (aX8_ups, aI X.cI 8 m_ups), (aX8_downs, aI X.cI 8 m_downs), (aX8_divisors, aI X.cI 60 m_divisors), (aX8_least, aI X.cI 305061 m_least)]
  refine q_if_ne g (6) 11 rx2 (by decide) dX8_multipleOf_5 (fun b5 => ?_) (fun b5 => ?_)
  · replace h := h.1 b5
    refine q_aload_n g 0 0 rfl dX8_multipleOf_11 ?_
    refine q_get (C := RX8) (T := TX8) (N := 24) g 13 inX8 0 1 rfl rfl (by decide) wF_X8_13 rfl dX8_multipleOf_12 ?_
    refine q_iload_n g 1 1 rfl dX8_multipleOf_15 ?_
    obtain ⟨c16, h⟩ := h
    obtain ⟨e16, h⟩ := h
    refine q_iald g 2 rfl c16 e16 (by decide) dX8_multipleOf_16 ?_
    refine q_sipush g (5000) (by decide) (by decide) dX8_multipleOf_17 ?_
    refine q_icmp_le g (8) 28 (r_m_downs _) (r32_lit _ (by decide)) (by decide) dX8_multipleOf_20 (fun b20 => ?_) (fun b20 => ?_)
    · replace h := h.1 b20
      refine q_aload_n g 0 0 rfl dX8_multipleOf_28 ?_
      refine q_aload_n g 0 0 rfl dX8_multipleOf_29 ?_
      refine q_get (C := RX8) (T := TX8) (N := 24) g 7 inX8 0 0 rfl rfl (by decide) wF_X8_7 rfl dX8_multipleOf_30 ?_
      refine q_iload_n g 1 1 rfl dX8_multipleOf_33 ?_
      obtain ⟨c34, h⟩ := h
      obtain ⟨e34, h⟩ := h
      refine q_iald g 1 rfl c34 e34 (by decide) dX8_multipleOf_34 ?_
      refine q_aload_n g 0 0 rfl dX8_multipleOf_35 ?_
      refine q_get (C := RX8) (T := TX8) (N := 24) g 13 inX8 0 1 rfl rfl (by decide) wF_X8_13 rfl dX8_multipleOf_36 ?_
      refine q_iload_n g 1 1 rfl dX8_multipleOf_39 ?_
      obtain ⟨c40, h⟩ := h
      obtain ⟨e40, h⟩ := h
      refine q_iald g 2 rfl c40 e40 (by decide) dX8_multipleOf_40 ?_
      refine q_callV (lev := 2) (mc := 0) (ms := 0) g 189 (c_X8_findMultiple X.l X.D X.cI X.cJ X.zt hX8 aX8_ups aX8_downs m_many aX8_row m_isSpent m_found aX8_sumMany aX8_sumShares aX8_sumSet aX8_taken aX8_restUp aX8_restDown m_fewest m_wishes aX8_wished aX8_far aX8_queue m_divided aX8_divisors aX8_least m_pairOne m_pairTwo m_sumUp m_sumDown m_divisors m_least (m_ups l1) (m_downs l1) _ r_m_divided r_m_divisors r_m_least (r_m_ups _) (r_m_downs _) h) (wr := [(aX8_ups, aI X.cI 8 m_ups), (aX8_downs, aI X.cI 8 m_downs)]) [0, 3, 4] [1, 2] rfl rfl rfl (by decide) (by decide) (by decide) (ci := 7) rfl rfl rfl wM_X8_189 wI_X8_findMultiple wS_X8_findMultiple wZ_X8 wC_X8_findMultiple 2 rfl (by decide +kernel) (by rw [hR]; exact ⟨by show 2 + 1 ≤ 3; omega, by show 8 + (4 + 11) + 100 * 2 ≤ 100 * 3; omega⟩) (by rw [hR]; exact ⟨Nat.le_refl _, Nat.le_refl _⟩) (Nat.le_of_ble_eq_true rfl) rfl dX8_multipleOf_41 (fun rv w1 hq => ?_)
      obtain ⟨x41, m_divided_41, m_divisors_41, m_least_41, rfl, rfl, rx41, rm_divided_41, rm_divisors_41, rm_least_41, h⟩ := hq
      refine q_ws (ws' := [(hX8, .inr (7, [.ref aX8_ups, .ref aX8_downs, .int (i32 m_many), .ref aX8_row, .int (i32 m_isSpent), .int (i32 m_found), .ref aX8_sumMany, .ref aX8_sumShares, .ref aX8_sumSet, .ref aX8_taken, .ref aX8_restUp, .ref aX8_restDown, .int (i32 m_fewest), .int (i32 m_wishes), .ref aX8_wished, .ref aX8_far, .ref aX8_queue, .int (i32 m_divided_41), .ref aX8_divisors, .ref aX8_least, .long (i64 m_pairOne), .long (i64 m_pairTwo), .long (i64 m_sumUp), .long (i64 m_sumDown)])), (aX8_ups, aI X.cI 8 m_ups), (aX8_downs, aI X.cI 8 m_downs), (aX8_divisors, aI X.cI 60 m_divisors_41), (aX8_least, aI X.cI 305061 m_least_41)]) [2, 0, 1, 3, 4] (by decide) rfl rfl ?_
      show Wat X 0 0 44 [(0, .ref hX8), (1, .int (i32 l1))] [.int (i32 x41)] [(hX8, .inr (7, [.ref aX8_ups, .ref aX8_downs, .int (i32 m_many), .ref aX8_row, .int (i32 m_isSpent), .int (i32 m_found), .ref aX8_sumMany, .ref aX8_sumShares, .ref aX8_sumSet, .ref aX8_taken, .ref aX8_restUp, .ref aX8_restDown, .int (i32 m_fewest), .int (i32 m_wishes), .ref aX8_wished, .ref aX8_far, .ref aX8_queue, .int (i32 m_divided_41), .ref aX8_divisors, .ref aX8_least, .long (i64 m_pairOne), .long (i64 m_pairTwo), .long (i64 m_sumUp), .long (i64 m_sumDown)])), (aX8_ups, aI X.cI 8 m_ups), (aX8_downs, aI X.cI 8 m_downs), (aX8_divisors, aI X.cI 60 m_divisors_41), (aX8_least, aI X.cI 305061 m_least_41)]
      refine q_lv (lv' := []) [] rfl ?_
      exact s_X8_multipleOf_44 g hR hX8 aX8_ups aX8_downs m_many aX8_row m_isSpent m_found aX8_sumMany aX8_sumShares aX8_sumSet aX8_taken aX8_restUp aX8_restDown m_fewest m_wishes aX8_wished aX8_far aX8_queue aX8_divisors aX8_least m_pairOne m_pairTwo m_sumUp m_sumDown m_ups m_downs r_m_ups r_m_downs Q hF m_divided_41 m_divisors_41 m_least_41 x41 rm_divided_41 rm_divisors_41 rm_least_41 rx41 h
    replace h := h.2 b20
    refine q_bipush g (-5) (by decide) (by decide) dX8_multipleOf_23 ?_
    refine q_goto g (19) 44 (by decide) dX8_multipleOf_25 ?_
    refine q_lv (lv' := []) [] rfl ?_
    exact s_X8_multipleOf_44 g hR hX8 aX8_ups aX8_downs m_many aX8_row m_isSpent m_found aX8_sumMany aX8_sumShares aX8_sumSet aX8_taken aX8_restUp aX8_restDown m_fewest m_wishes aX8_wished aX8_far aX8_queue aX8_divisors aX8_least m_pairOne m_pairTwo m_sumUp m_sumDown m_ups m_downs r_m_ups r_m_downs Q hF m_divided m_divisors m_least (-5) r_m_divided r_m_divisors r_m_least (r32_lit _ (by decide)) h
  replace h := h.2 b5
  refine q_bipush g (-2) (by decide) (by decide) dX8_multipleOf_8 ?_
  exact q_iret g hF ⟨(-2), m_divided, m_divisors, m_least, rfl, rfl, (r32_lit _ (by decide)), r_m_divided, r_m_divisors, r_m_least, h⟩ dX8_multipleOf_10
