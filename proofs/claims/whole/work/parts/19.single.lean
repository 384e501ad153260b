theorem wC_X0_at : Cond.code yX0_at cX0_at 2 (some .int) ∈ TT := List.mem_filter.mpr ⟨List.mem_append_right _ (List.mem_of_getElem? (i := 600) (by decide +kernel)), rfl⟩
theorem wC_X0_factorFor : Cond.code yX0_factorFor cX0_factorFor 3 (some .int) ∈ TT := List.mem_filter.mpr ⟨List.mem_append_right _ (List.mem_of_getElem? (i := 556) (by decide +kernel)), rfl⟩
theorem wC_X0_size : Cond.code yX0_size cX0_size 1 (some .int) ∈ TT := List.mem_filter.mpr ⟨List.mem_append_right _ (List.mem_of_getElem? (i := 596) (by decide +kernel)), rfl⟩
theorem wC_X1_countShares : Cond.code yX1_countShares cX1_countShares 3 (some .int) ∈ TT := List.mem_filter.mpr ⟨List.mem_append_right _ (List.mem_of_getElem? (i := 709) (by decide +kernel)), rfl⟩
theorem wC_X1_fewestSteps : Cond.code yX1_fewestSteps cX1_fewestSteps 3 (some .int) ∈ TT := List.mem_filter.mpr ⟨List.mem_append_right _ (List.mem_of_getElem? (i := 517) (by decide +kernel)), rfl⟩
theorem wC_X1_isThere : Cond.code yX1_isThere cX1_isThere 1 (some .boolean) ∈ TT := List.mem_filter.mpr ⟨List.mem_append_right _ (List.mem_of_getElem? (i := 441) (by decide +kernel)), rfl⟩
theorem wC_X1_neighbours : Cond.code yX1_neighbours cX1_neighbours 4 (some .int) ∈ TT := List.mem_filter.mpr ⟨List.mem_append_right _ (List.mem_of_getElem? (i := 548) (by decide +kernel)), rfl⟩
theorem wC_X1_room : Cond.code yX1_room cX1_room 1 (some (.array .long)) ∈ TT := List.mem_filter.mpr ⟨List.mem_append_right _ (List.mem_of_getElem? (i := 402) (by decide +kernel)), rfl⟩
theorem wC_X1_settle : Cond.code yX1_settle cX1_settle 3 (some .int) ∈ TT := List.mem_filter.mpr ⟨List.mem_append_right _ (List.mem_of_getElem? (i := 433) (by decide +kernel)), rfl⟩
theorem wC_X2_fewestShares : Cond.code yX2_fewestShares cX2_fewestShares 3 (some .int) ∈ TT := List.mem_filter.mpr ⟨List.mem_append_right _ (List.mem_of_getElem? (i := 670) (by decide +kernel)), rfl⟩
theorem wC_X2_prepare : Cond.code yX2_prepare cX2_prepare 4 none ∈ TT := List.mem_filter.mpr ⟨List.mem_append_right _ (List.mem_of_getElem? (i := 354) (by decide +kernel)), rfl⟩
theorem wC_X3_at : Cond.code yX3_at cX3_at 2 (some .long) ∈ TT := List.mem_filter.mpr ⟨List.mem_append_right _ (List.mem_of_getElem? (i := 341) (by decide +kernel)), rfl⟩
theorem wC_X3_walk : Cond.code yX3_walk cX3_walk 6 (some .int) ∈ TT := List.mem_filter.mpr ⟨List.mem_append_right _ (List.mem_of_getElem? (i := 285) (by decide +kernel)), rfl⟩
theorem wC_X5_countThrees : Cond.code yX5_countThrees cX5_countThrees 7 (some .int) ∈ TT := List.mem_filter.mpr ⟨List.mem_append_right _ (List.mem_of_getElem? (i := 641) (by decide +kernel)), rfl⟩
theorem wC_X5_greater : Cond.code yX5_greater cX5_greater 6 (some .long) ∈ TT := List.mem_filter.mpr ⟨List.mem_append_right _ (List.mem_of_getElem? (i := 632) (by decide +kernel)), rfl⟩
theorem wC_X5_list : Cond.code yX5_list cX5_list 3 (some .int) ∈ TT := List.mem_filter.mpr ⟨List.mem_append_right _ (List.mem_of_getElem? (i := 615) (by decide +kernel)), rfl⟩
theorem wC_X6_choose : Cond.code yX6_choose cX6_choose 4 (some .int) ∈ TT := List.mem_filter.mpr ⟨List.mem_append_right _ (List.mem_of_getElem? (i := 493) (by decide +kernel)), rfl⟩
theorem wC_X6_firstWrong : Cond.code yX6_firstWrong cX6_firstWrong 1 (some .int) ∈ TT := List.mem_filter.mpr ⟨List.mem_append_right _ (List.mem_of_getElem? (i := 485) (by decide +kernel)), rfl⟩
theorem wC_X6_size : Cond.code yX6_size cX6_size 1 (some .int) ∈ TT := List.mem_filter.mpr ⟨List.mem_append_right _ (List.mem_of_getElem? (i := 705) (by decide +kernel)), rfl⟩
theorem wC_X6_tell : Cond.code yX6_tell cX6_tell 5 none ∈ TT := List.mem_filter.mpr ⟨List.mem_append_right _ (List.mem_of_getElem? (i := 467) (by decide +kernel)), rfl⟩
theorem wC_X7_fewest : Cond.code yX7_fewest cX7_fewest 6 (some .int) ∈ TT := List.mem_filter.mpr ⟨List.mem_append_right _ (List.mem_of_getElem? (i := 666) (by decide +kernel)), rfl⟩
theorem wC_X7_follow : Cond.code yX7_follow cX7_follow 4 (some .int) ∈ TT := List.mem_filter.mpr ⟨List.mem_append_right _ (List.mem_of_getElem? (i := 281) (by decide +kernel)), rfl⟩
theorem wC_X7_isHalf : Cond.code yX7_isHalf cX7_isHalf 1 (some .boolean) ∈ TT := List.mem_filter.mpr ⟨List.mem_append_right _ (List.mem_of_getElem? (i := 262) (by decide +kernel)), rfl⟩
theorem wC_X7_isHandy : Cond.code yX7_isHandy cX7_isHandy 6 (some .boolean) ∈ TT := List.mem_filter.mpr ⟨List.mem_append_right _ (List.mem_of_getElem? (i := 607) (by decide +kernel)), rfl⟩
theorem wC_X7_isProper : Cond.code yX7_isProper cX7_isProper 2 (some .boolean) ∈ TT := List.mem_filter.mpr ⟨List.mem_append_right _ (List.mem_of_getElem? (i := 350) (by decide +kernel)), rfl⟩
theorem wC_X7_isRegister : Cond.code yX7_isRegister cX7_isRegister 1 (some .boolean) ∈ TT := List.mem_filter.mpr ⟨List.mem_append_right _ (List.mem_of_getElem? (i := 243) (by decide +kernel)), rfl⟩
theorem wC_X7_isRoad : Cond.code yX7_isRoad cX7_isRoad 1 (some .boolean) ∈ TT := List.mem_filter.mpr ⟨List.mem_append_right _ (List.mem_of_getElem? (i := 277) (by decide +kernel)), rfl⟩
theorem wC_X7_piecesLeft : Cond.code yX7_piecesLeft cX7_piecesLeft 8 (some .long) ∈ TT := List.mem_filter.mpr ⟨List.mem_append_right _ (List.mem_of_getElem? (i := 693) (by decide +kernel)), rfl⟩
theorem wC_X7_put : Cond.code yX7_put cX7_put 8 (some .int) ∈ TT := List.mem_filter.mpr ⟨List.mem_append_right _ (List.mem_of_getElem? (i := 248) (by decide +kernel)), rfl⟩
theorem wC_X7_registersHeld : Cond.code yX7_registersHeld cX7_registersHeld 3 (some .int) ∈ TT := List.mem_filter.mpr ⟨List.mem_append_right _ (List.mem_of_getElem? (i := 701) (by decide +kernel)), rfl⟩
theorem wC_X7_rising : Cond.code yX7_rising cX7_rising 10 (some .long) ∈ TT := List.mem_filter.mpr ⟨List.mem_append_right _ (List.mem_of_getElem? (i := 675) (by decide +kernel)), rfl⟩
theorem wC_X7_wholeLoaves : Cond.code yX7_wholeLoaves cX7_wholeLoaves 6 (some .long) ∈ TT := List.mem_filter.mpr ⟨List.mem_append_right _ (List.mem_of_getElem? (i := 688) (by decide +kernel)), rfl⟩
theorem wF_X7_13 : Cond.fieldLink RX7 13 (TX7 1).1 (TX7 1).2.1 (TX7 1).2.2.1 ∈ TT := List.mem_filter.mpr ⟨List.mem_append_right _ (List.mem_of_getElem? (i := 213) (by decide +kernel)), rfl⟩
theorem wF_X7_19 : Cond.fieldLink RX7 19 (TX7 2).1 (TX7 2).2.1 (TX7 2).2.2.1 ∈ TT := List.mem_filter.mpr ⟨List.mem_append_right _ (List.mem_of_getElem? (i := 214) (by decide +kernel)), rfl⟩
theorem wF_X7_26 : Cond.fieldLink RX7 26 (TX7 3).1 (TX7 3).2.1 (TX7 3).2.2.1 ∈ TT := List.mem_filter.mpr ⟨List.mem_append_right _ (List.mem_of_getElem? (i := 215) (by decide +kernel)), rfl⟩
theorem wF_X7_33 : Cond.fieldLink RX7 33 (TX7 4).1 (TX7 4).2.1 (TX7 4).2.2.1 ∈ TT := List.mem_filter.mpr ⟨List.mem_append_right _ (List.mem_of_getElem? (i := 216) (by decide +kernel)), rfl⟩
theorem wF_X7_40 : Cond.fieldLink RX7 40 (TX7 5).1 (TX7 5).2.1 (TX7 5).2.2.1 ∈ TT := List.mem_filter.mpr ⟨List.mem_append_right _ (List.mem_of_getElem? (i := 217) (by decide +kernel)), rfl⟩
theorem wF_X7_47 : Cond.fieldLink RX7 47 (TX7 6).1 (TX7 6).2.1 (TX7 6).2.2.1 ∈ TT := List.mem_filter.mpr ⟨List.mem_append_right _ (List.mem_of_getElem? (i := 218) (by decide +kernel)), rfl⟩
theorem wF_X7_54 : Cond.fieldLink RX7 54 (TX7 7).1 (TX7 7).2.1 (TX7 7).2.2.1 ∈ TT := List.mem_filter.mpr ⟨List.mem_append_right _ (List.mem_of_getElem? (i := 219) (by decide +kernel)), rfl⟩
theorem wF_X7_9 : Cond.fieldLink RX7 9 (TX7 0).1 (TX7 0).2.1 (TX7 0).2.2.1 ∈ TT := List.mem_filter.mpr ⟨List.mem_append_right _ (List.mem_of_getElem? (i := 212) (by decide +kernel)), rfl⟩
theorem wI_X0_at : Cond.instanceMethod yX0_at ∈ TT := List.mem_filter.mpr ⟨List.mem_append_right _ (List.mem_of_getElem? (i := 598) (by decide +kernel)), rfl⟩
theorem wI_X0_factorFor : Cond.instanceMethod yX0_factorFor ∈ TT := List.mem_filter.mpr ⟨List.mem_append_right _ (List.mem_of_getElem? (i := 554) (by decide +kernel)), rfl⟩
theorem wI_X0_size : Cond.instanceMethod yX0_size ∈ TT := List.mem_filter.mpr ⟨List.mem_append_right _ (List.mem_of_getElem? (i := 594) (by decide +kernel)), rfl⟩
theorem wI_X1_countShares : Cond.instanceMethod yX1_countShares ∈ TT := List.mem_filter.mpr ⟨List.mem_append_right _ (List.mem_of_getElem? (i := 707) (by decide +kernel)), rfl⟩
theorem wI_X1_fewestSteps : Cond.instanceMethod yX1_fewestSteps ∈ TT := List.mem_filter.mpr ⟨List.mem_append_right _ (List.mem_of_getElem? (i := 515) (by decide +kernel)), rfl⟩
theorem wI_X1_isThere : Cond.instanceMethod yX1_isThere ∈ TT := List.mem_filter.mpr ⟨List.mem_append_right _ (List.mem_of_getElem? (i := 439) (by decide +kernel)), rfl⟩
theorem wI_X1_neighbours : Cond.instanceMethod yX1_neighbours ∈ TT := List.mem_filter.mpr ⟨List.mem_append_right _ (List.mem_of_getElem? (i := 546) (by decide +kernel)), rfl⟩
theorem wI_X1_room : Cond.instanceMethod yX1_room ∈ TT := List.mem_filter.mpr ⟨List.mem_append_right _ (List.mem_of_getElem? (i := 400) (by decide +kernel)), rfl⟩
theorem wI_X1_settle : Cond.instanceMethod yX1_settle ∈ TT := List.mem_filter.mpr ⟨List.mem_append_right _ (List.mem_of_getElem? (i := 431) (by decide +kernel)), rfl⟩
theorem wI_X2_fewestShares : Cond.instanceMethod yX2_fewestShares ∈ TT := List.mem_filter.mpr ⟨List.mem_append_right _ (List.mem_of_getElem? (i := 668) (by decide +kernel)), rfl⟩
theorem wI_X2_prepare : Cond.instanceMethod yX2_prepare ∈ TT := List.mem_filter.mpr ⟨List.mem_append_right _ (List.mem_of_getElem? (i := 352) (by decide +kernel)), rfl⟩
theorem wI_X3_at : Cond.instanceMethod yX3_at ∈ TT := List.mem_filter.mpr ⟨List.mem_append_right _ (List.mem_of_getElem? (i := 339) (by decide +kernel)), rfl⟩
theorem wI_X3_walk : Cond.instanceMethod yX3_walk ∈ TT := List.mem_filter.mpr ⟨List.mem_append_right _ (List.mem_of_getElem? (i := 283) (by decide +kernel)), rfl⟩
theorem wI_X5_countThrees : Cond.instanceMethod yX5_countThrees ∈ TT := List.mem_filter.mpr ⟨List.mem_append_right _ (List.mem_of_getElem? (i := 639) (by decide +kernel)), rfl⟩
theorem wI_X5_greater : Cond.instanceMethod yX5_greater ∈ TT := List.mem_filter.mpr ⟨List.mem_append_right _ (List.mem_of_getElem? (i := 630) (by decide +kernel)), rfl⟩
theorem wI_X5_list : Cond.instanceMethod yX5_list ∈ TT := List.mem_filter.mpr ⟨List.mem_append_right _ (List.mem_of_getElem? (i := 613) (by decide +kernel)), rfl⟩
theorem wI_X6_choose : Cond.instanceMethod yX6_choose ∈ TT := List.mem_filter.mpr ⟨List.mem_append_right _ (List.mem_of_getElem? (i := 491) (by decide +kernel)), rfl⟩
theorem wI_X6_firstWrong : Cond.instanceMethod yX6_firstWrong ∈ TT := List.mem_filter.mpr ⟨List.mem_append_right _ (List.mem_of_getElem? (i := 483) (by decide +kernel)), rfl⟩
theorem wI_X6_size : Cond.instanceMethod yX6_size ∈ TT := List.mem_filter.mpr ⟨List.mem_append_right _ (List.mem_of_getElem? (i := 703) (by decide +kernel)), rfl⟩
theorem wI_X6_tell : Cond.instanceMethod yX6_tell ∈ TT := List.mem_filter.mpr ⟨List.mem_append_right _ (List.mem_of_getElem? (i := 465) (by decide +kernel)), rfl⟩
theorem wI_X7_fewest : Cond.instanceMethod yX7_fewest ∈ TT := List.mem_filter.mpr ⟨List.mem_append_right _ (List.mem_of_getElem? (i := 665) (by decide +kernel)), rfl⟩
theorem wI_X7_follow : Cond.instanceMethod yX7_follow ∈ TT := List.mem_filter.mpr ⟨List.mem_append_right _ (List.mem_of_getElem? (i := 280) (by decide +kernel)), rfl⟩
theorem wI_X7_isProper : Cond.instanceMethod yX7_isProper ∈ TT := List.mem_filter.mpr ⟨List.mem_append_right _ (List.mem_of_getElem? (i := 349) (by decide +kernel)), rfl⟩
theorem wI_X7_piecesLeft : Cond.instanceMethod yX7_piecesLeft ∈ TT := List.mem_filter.mpr ⟨List.mem_append_right _ (List.mem_of_getElem? (i := 692) (by decide +kernel)), rfl⟩
theorem wI_X7_put : Cond.instanceMethod yX7_put ∈ TT := List.mem_filter.mpr ⟨List.mem_append_right _ (List.mem_of_getElem? (i := 247) (by decide +kernel)), rfl⟩
theorem wI_X7_registersHeld : Cond.instanceMethod yX7_registersHeld ∈ TT := List.mem_filter.mpr ⟨List.mem_append_right _ (List.mem_of_getElem? (i := 700) (by decide +kernel)), rfl⟩
theorem wI_X7_rising : Cond.instanceMethod yX7_rising ∈ TT := List.mem_filter.mpr ⟨List.mem_append_right _ (List.mem_of_getElem? (i := 673) (by decide +kernel)), rfl⟩
theorem wI_X7_wholeLoaves : Cond.instanceMethod yX7_wholeLoaves ∈ TT := List.mem_filter.mpr ⟨List.mem_append_right _ (List.mem_of_getElem? (i := 687) (by decide +kernel)), rfl⟩
theorem wK_X7_68 : Cond.constant RX7 68 (1000000) ∈ TT := List.mem_filter.mpr ⟨List.mem_append_right _ (List.mem_of_getElem? (i := 244) (by decide +kernel)), rfl⟩
theorem wL_X7_161 : Cond.constantLong RX7 161 (-2) ∈ TT := List.mem_filter.mpr ⟨List.mem_append_right _ (List.mem_of_getElem? (i := 624) (by decide +kernel)), rfl⟩
theorem wL_X7_197 : Cond.constantLong RX7 197 (1000000) ∈ TT := List.mem_filter.mpr ⟨List.mem_append_right _ (List.mem_of_getElem? (i := 255) (by decide +kernel)), rfl⟩
theorem wL_X7_83 : Cond.constantLong RX7 83 (-1) ∈ TT := List.mem_filter.mpr ⟨List.mem_append_right _ (List.mem_of_getElem? (i := 337) (by decide +kernel)), rfl⟩
theorem wL_X7_89 : Cond.constantLong RX7 89 (-4) ∈ TT := List.mem_filter.mpr ⟨List.mem_append_right _ (List.mem_of_getElem? (i := 342) (by decide +kernel)), rfl⟩
theorem wM_X7_102 : Cond.methodLink RX7 102 yX2_collect ∈ TT := List.mem_filter.mpr ⟨List.mem_append_right _ (List.mem_of_getElem? (i := 403) (by decide +kernel)), rfl⟩
theorem wM_X7_106 : Cond.methodLink RX7 106 yX1_settle ∈ TT := List.mem_filter.mpr ⟨List.mem_append_right _ (List.mem_of_getElem? (i := 430) (by decide +kernel)), rfl⟩
theorem wM_X7_110 : Cond.methodLink RX7 110 yX1_isThere ∈ TT := List.mem_filter.mpr ⟨List.mem_append_right _ (List.mem_of_getElem? (i := 438) (by decide +kernel)), rfl⟩
theorem wM_X7_114 : Cond.methodLink RX7 114 yX1_size ∈ TT := List.mem_filter.mpr ⟨List.mem_append_right _ (List.mem_of_getElem? (i := 442) (by decide +kernel)), rfl⟩
theorem wM_X7_118 : Cond.methodLink RX7 118 yX1_at ∈ TT := List.mem_filter.mpr ⟨List.mem_append_right _ (List.mem_of_getElem? (i := 446) (by decide +kernel)), rfl⟩
theorem wM_X7_119 : Cond.methodLink RX7 119 yJ13_bitCount_95d88 ∈ TT := List.mem_filter.mpr ⟨List.mem_append_right _ (List.mem_of_getElem? (i := 450) (by decide +kernel)), rfl⟩
theorem wM_X7_125 : Cond.methodLink RX7 125 yX4_numberAt ∈ TT := List.mem_filter.mpr ⟨List.mem_append_right _ (List.mem_of_getElem? (i := 456) (by decide +kernel)), rfl⟩
theorem wM_X7_131 : Cond.methodLink RX7 131 yX6_tell ∈ TT := List.mem_filter.mpr ⟨List.mem_append_right _ (List.mem_of_getElem? (i := 464) (by decide +kernel)), rfl⟩
theorem wM_X7_135 : Cond.methodLink RX7 135 yX6_firstWrong ∈ TT := List.mem_filter.mpr ⟨List.mem_append_right _ (List.mem_of_getElem? (i := 482) (by decide +kernel)), rfl⟩
theorem wM_X7_138 : Cond.methodLink RX7 138 yX6_choose ∈ TT := List.mem_filter.mpr ⟨List.mem_append_right _ (List.mem_of_getElem? (i := 490) (by decide +kernel)), rfl⟩
theorem wM_X7_142 : Cond.methodLink RX7 142 yX1_fewestSteps ∈ TT := List.mem_filter.mpr ⟨List.mem_append_right _ (List.mem_of_getElem? (i := 514) (by decide +kernel)), rfl⟩
theorem wM_X7_145 : Cond.methodLink RX7 145 yX1_neighbours ∈ TT := List.mem_filter.mpr ⟨List.mem_append_right _ (List.mem_of_getElem? (i := 545) (by decide +kernel)), rfl⟩
theorem wM_X7_149 : Cond.methodLink RX7 149 yX0_factorFor ∈ TT := List.mem_filter.mpr ⟨List.mem_append_right _ (List.mem_of_getElem? (i := 553) (by decide +kernel)), rfl⟩
theorem wM_X7_152 : Cond.methodLink RX7 152 yX0_size ∈ TT := List.mem_filter.mpr ⟨List.mem_append_right _ (List.mem_of_getElem? (i := 593) (by decide +kernel)), rfl⟩
theorem wM_X7_153 : Cond.methodLink RX7 153 yX0_at ∈ TT := List.mem_filter.mpr ⟨List.mem_append_right _ (List.mem_of_getElem? (i := 597) (by decide +kernel)), rfl⟩
theorem wM_X7_155 : Cond.methodLink RX7 155 yX7_isHandy ∈ TT := List.mem_filter.mpr ⟨List.mem_append_right _ (List.mem_of_getElem? (i := 605) (by decide +kernel)), rfl⟩
theorem wM_X7_158 : Cond.methodLink RX7 158 yX5_list ∈ TT := List.mem_filter.mpr ⟨List.mem_append_right _ (List.mem_of_getElem? (i := 612) (by decide +kernel)), rfl⟩
theorem wM_X7_163 : Cond.methodLink RX7 163 yX5_lesser ∈ TT := List.mem_filter.mpr ⟨List.mem_append_right _ (List.mem_of_getElem? (i := 625) (by decide +kernel)), rfl⟩
theorem wM_X7_166 : Cond.methodLink RX7 166 yX5_greater ∈ TT := List.mem_filter.mpr ⟨List.mem_append_right _ (List.mem_of_getElem? (i := 629) (by decide +kernel)), rfl⟩
theorem wM_X7_169 : Cond.methodLink RX7 169 yX5_countThrees ∈ TT := List.mem_filter.mpr ⟨List.mem_append_right _ (List.mem_of_getElem? (i := 638) (by decide +kernel)), rfl⟩
theorem wM_X7_172 : Cond.methodLink RX7 172 yX7_fewest ∈ TT := List.mem_filter.mpr ⟨List.mem_append_right _ (List.mem_of_getElem? (i := 663) (by decide +kernel)), rfl⟩
theorem wM_X7_176 : Cond.methodLink RX7 176 yX7_commonDivisor ∈ TT := List.mem_filter.mpr ⟨List.mem_append_right _ (List.mem_of_getElem? (i := 249) (by decide +kernel)), rfl⟩
theorem wM_X7_180 : Cond.methodLink RX7 180 yX7_rising ∈ TT := List.mem_filter.mpr ⟨List.mem_append_right _ (List.mem_of_getElem? (i := 680) (by decide +kernel)), rfl⟩
theorem wM_X7_184 : Cond.methodLink RX7 184 yX7_wholeLoaves ∈ TT := List.mem_filter.mpr ⟨List.mem_append_right _ (List.mem_of_getElem? (i := 685) (by decide +kernel)), rfl⟩
theorem wM_X7_187 : Cond.methodLink RX7 187 yX7_piecesLeft ∈ TT := List.mem_filter.mpr ⟨List.mem_append_right _ (List.mem_of_getElem? (i := 690) (by decide +kernel)), rfl⟩
theorem wM_X7_190 : Cond.methodLink RX7 190 yX7_registersHeld ∈ TT := List.mem_filter.mpr ⟨List.mem_append_right _ (List.mem_of_getElem? (i := 698) (by decide +kernel)), rfl⟩
theorem wM_X7_193 : Cond.methodLink RX7 193 yX6_size ∈ TT := List.mem_filter.mpr ⟨List.mem_append_right _ (List.mem_of_getElem? (i := 702) (by decide +kernel)), rfl⟩
theorem wM_X7_194 : Cond.methodLink RX7 194 yX1_countShares ∈ TT := List.mem_filter.mpr ⟨List.mem_append_right _ (List.mem_of_getElem? (i := 706) (by decide +kernel)), rfl⟩
theorem wM_X7_199 : Cond.methodLink RX7 199 yX3_walk ∈ TT := List.mem_filter.mpr ⟨List.mem_append_right _ (List.mem_of_getElem? (i := 282) (by decide +kernel)), rfl⟩
theorem wM_X7_202 : Cond.methodLink RX7 202 yX7_roundedUp ∈ TT := List.mem_filter.mpr ⟨List.mem_append_right _ (List.mem_of_getElem? (i := 689) (by decide +kernel)), rfl⟩
theorem wM_X7_205 : Cond.methodLink RX7 205 yX2_fewestShares ∈ TT := List.mem_filter.mpr ⟨List.mem_append_right _ (List.mem_of_getElem? (i := 667) (by decide +kernel)), rfl⟩
theorem wM_X7_64 : Cond.methodLink RX7 64 yX7_isRegister ∈ TT := List.mem_filter.mpr ⟨List.mem_append_right _ (List.mem_of_getElem? (i := 241) (by decide +kernel)), rfl⟩
theorem wM_X7_69 : Cond.methodLink RX7 69 yX7_put ∈ TT := List.mem_filter.mpr ⟨List.mem_append_right _ (List.mem_of_getElem? (i := 245) (by decide +kernel)), rfl⟩
theorem wM_X7_73 : Cond.methodLink RX7 73 yX7_isHalf ∈ TT := List.mem_filter.mpr ⟨List.mem_append_right _ (List.mem_of_getElem? (i := 260) (by decide +kernel)), rfl⟩
theorem wM_X7_76 : Cond.methodLink RX7 76 yX7_isRoad ∈ TT := List.mem_filter.mpr ⟨List.mem_append_right _ (List.mem_of_getElem? (i := 275) (by decide +kernel)), rfl⟩
theorem wM_X7_79 : Cond.methodLink RX7 79 yX7_follow ∈ TT := List.mem_filter.mpr ⟨List.mem_append_right _ (List.mem_of_getElem? (i := 278) (by decide +kernel)), rfl⟩
theorem wM_X7_85 : Cond.methodLink RX7 85 yX3_at ∈ TT := List.mem_filter.mpr ⟨List.mem_append_right _ (List.mem_of_getElem? (i := 338) (by decide +kernel)), rfl⟩
theorem wM_X7_91 : Cond.methodLink RX7 91 yX7_isProper ∈ TT := List.mem_filter.mpr ⟨List.mem_append_right _ (List.mem_of_getElem? (i := 347) (by decide +kernel)), rfl⟩
theorem wM_X7_94 : Cond.methodLink RX7 94 yX2_prepare ∈ TT := List.mem_filter.mpr ⟨List.mem_append_right _ (List.mem_of_getElem? (i := 351) (by decide +kernel)), rfl⟩
theorem wM_X7_98 : Cond.methodLink RX7 98 yX1_room ∈ TT := List.mem_filter.mpr ⟨List.mem_append_right _ (List.mem_of_getElem? (i := 399) (by decide +kernel)), rfl⟩
theorem wS_X0_at : Cond.selects yX0_at.cls yX0_at yX0_at ∈ TT := List.mem_filter.mpr ⟨List.mem_append_right _ (List.mem_of_getElem? (i := 599) (by decide +kernel)), rfl⟩
theorem wS_X0_factorFor : Cond.selects yX0_factorFor.cls yX0_factorFor yX0_factorFor ∈ TT := List.mem_filter.mpr ⟨List.mem_append_right _ (List.mem_of_getElem? (i := 555) (by decide +kernel)), rfl⟩
theorem wS_X0_size : Cond.selects yX0_size.cls yX0_size yX0_size ∈ TT := List.mem_filter.mpr ⟨List.mem_append_right _ (List.mem_of_getElem? (i := 595) (by decide +kernel)), rfl⟩
theorem wS_X1_countShares : Cond.selects yX1_countShares.cls yX1_countShares yX1_countShares ∈ TT := List.mem_filter.mpr ⟨List.mem_append_right _ (List.mem_of_getElem? (i := 708) (by decide +kernel)), rfl⟩
theorem wS_X1_fewestSteps : Cond.selects yX1_fewestSteps.cls yX1_fewestSteps yX1_fewestSteps ∈ TT := List.mem_filter.mpr ⟨List.mem_append_right _ (List.mem_of_getElem? (i := 516) (by decide +kernel)), rfl⟩
theorem wS_X1_isThere : Cond.selects yX1_isThere.cls yX1_isThere yX1_isThere ∈ TT := List.mem_filter.mpr ⟨List.mem_append_right _ (List.mem_of_getElem? (i := 440) (by decide +kernel)), rfl⟩
theorem wS_X1_neighbours : Cond.selects yX1_neighbours.cls yX1_neighbours yX1_neighbours ∈ TT := List.mem_filter.mpr ⟨List.mem_append_right _ (List.mem_of_getElem? (i := 547) (by decide +kernel)), rfl⟩
theorem wS_X1_room : Cond.selects yX1_room.cls yX1_room yX1_room ∈ TT := List.mem_filter.mpr ⟨List.mem_append_right _ (List.mem_of_getElem? (i := 401) (by decide +kernel)), rfl⟩
theorem wS_X1_settle : Cond.selects yX1_settle.cls yX1_settle yX1_settle ∈ TT := List.mem_filter.mpr ⟨List.mem_append_right _ (List.mem_of_getElem? (i := 432) (by decide +kernel)), rfl⟩
theorem wS_X2_fewestShares : Cond.selects yX2_fewestShares.cls yX2_fewestShares yX2_fewestShares ∈ TT := List.mem_filter.mpr ⟨List.mem_append_right _ (List.mem_of_getElem? (i := 669) (by decide +kernel)), rfl⟩
theorem wS_X2_prepare : Cond.selects yX2_prepare.cls yX2_prepare yX2_prepare ∈ TT := List.mem_filter.mpr ⟨List.mem_append_right _ (List.mem_of_getElem? (i := 353) (by decide +kernel)), rfl⟩
theorem wS_X3_at : Cond.selects yX3_at.cls yX3_at yX3_at ∈ TT := List.mem_filter.mpr ⟨List.mem_append_right _ (List.mem_of_getElem? (i := 340) (by decide +kernel)), rfl⟩
theorem wS_X3_walk : Cond.selects yX3_walk.cls yX3_walk yX3_walk ∈ TT := List.mem_filter.mpr ⟨List.mem_append_right _ (List.mem_of_getElem? (i := 284) (by decide +kernel)), rfl⟩
theorem wS_X5_countThrees : Cond.selects yX5_countThrees.cls yX5_countThrees yX5_countThrees ∈ TT := List.mem_filter.mpr ⟨List.mem_append_right _ (List.mem_of_getElem? (i := 640) (by decide +kernel)), rfl⟩
theorem wS_X5_greater : Cond.selects yX5_greater.cls yX5_greater yX5_greater ∈ TT := List.mem_filter.mpr ⟨List.mem_append_right _ (List.mem_of_getElem? (i := 631) (by decide +kernel)), rfl⟩
theorem wS_X5_list : Cond.selects yX5_list.cls yX5_list yX5_list ∈ TT := List.mem_filter.mpr ⟨List.mem_append_right _ (List.mem_of_getElem? (i := 614) (by decide +kernel)), rfl⟩
theorem wS_X6_choose : Cond.selects yX6_choose.cls yX6_choose yX6_choose ∈ TT := List.mem_filter.mpr ⟨List.mem_append_right _ (List.mem_of_getElem? (i := 492) (by decide +kernel)), rfl⟩
theorem wS_X6_firstWrong : Cond.selects yX6_firstWrong.cls yX6_firstWrong yX6_firstWrong ∈ TT := List.mem_filter.mpr ⟨List.mem_append_right _ (List.mem_of_getElem? (i := 484) (by decide +kernel)), rfl⟩
theorem wS_X6_size : Cond.selects yX6_size.cls yX6_size yX6_size ∈ TT := List.mem_filter.mpr ⟨List.mem_append_right _ (List.mem_of_getElem? (i := 704) (by decide +kernel)), rfl⟩
theorem wS_X6_tell : Cond.selects yX6_tell.cls yX6_tell yX6_tell ∈ TT := List.mem_filter.mpr ⟨List.mem_append_right _ (List.mem_of_getElem? (i := 466) (by decide +kernel)), rfl⟩
theorem wS_X7_fewest : Cond.selects yX7_fewest.cls yX7_fewest yX7_fewest ∈ TT := List.mem_filter.mpr ⟨List.mem_append_left _ (List.mem_of_getElem? (i := 42) (by decide +kernel)), rfl⟩
theorem wS_X7_follow : Cond.selects yX7_follow.cls yX7_follow yX7_follow ∈ TT := List.mem_filter.mpr ⟨List.mem_append_left _ (List.mem_of_getElem? (i := 1) (by decide +kernel)), rfl⟩
theorem wS_X7_isProper : Cond.selects yX7_isProper.cls yX7_isProper yX7_isProper ∈ TT := List.mem_filter.mpr ⟨List.mem_append_left _ (List.mem_of_getElem? (i := 10) (by decide +kernel)), rfl⟩
theorem wS_X7_piecesLeft : Cond.selects yX7_piecesLeft.cls yX7_piecesLeft yX7_piecesLeft ∈ TT := List.mem_filter.mpr ⟨List.mem_append_left _ (List.mem_of_getElem? (i := 44) (by decide +kernel)), rfl⟩
theorem wS_X7_put : Cond.selects yX7_put.cls yX7_put yX7_put ∈ TT := List.mem_filter.mpr ⟨List.mem_append_left _ (List.mem_of_getElem? (i := 0) (by decide +kernel)), rfl⟩
theorem wS_X7_registersHeld : Cond.selects yX7_registersHeld.cls yX7_registersHeld yX7_registersHeld ∈ TT := List.mem_filter.mpr ⟨List.mem_append_left _ (List.mem_of_getElem? (i := 45) (by decide +kernel)), rfl⟩
theorem wS_X7_rising : Cond.selects yX7_rising.cls yX7_rising yX7_rising ∈ TT := List.mem_filter.mpr ⟨List.mem_append_right _ (List.mem_of_getElem? (i := 674) (by decide +kernel)), rfl⟩
theorem wS_X7_wholeLoaves : Cond.selects yX7_wholeLoaves.cls yX7_wholeLoaves yX7_wholeLoaves ∈ TT := List.mem_filter.mpr ⟨List.mem_append_left _ (List.mem_of_getElem? (i := 43) (by decide +kernel)), rfl⟩
theorem wT_X7_isHalf : Cond.static yX7_isHalf ∈ TT := List.mem_filter.mpr ⟨List.mem_append_right _ (List.mem_of_getElem? (i := 261) (by decide +kernel)), rfl⟩
theorem wT_X7_isHandy : Cond.static yX7_isHandy ∈ TT := List.mem_filter.mpr ⟨List.mem_append_right _ (List.mem_of_getElem? (i := 606) (by decide +kernel)), rfl⟩
theorem wT_X7_isRegister : Cond.static yX7_isRegister ∈ TT := List.mem_filter.mpr ⟨List.mem_append_right _ (List.mem_of_getElem? (i := 242) (by decide +kernel)), rfl⟩
theorem wT_X7_isRoad : Cond.static yX7_isRoad ∈ TT := List.mem_filter.mpr ⟨List.mem_append_right _ (List.mem_of_getElem? (i := 276) (by decide +kernel)), rfl⟩
theorem dX7_against_0 : decode cX7_against 0 = .ok (.iload_n 1, 1) := by decide +kernel
theorem dX7_against_1 : decode cX7_against 1 = .ok (.invokestatic 64, 3) := by decide +kernel
theorem dX7_against_4 : decode cX7_against 4 = .ok (.ifCond .eq 10, 3) := by decide +kernel
theorem dX7_against_7 : decode cX7_against 7 = .ok (.iload_n 2, 1) := by decide +kernel
theorem dX7_against_8 : decode cX7_against 8 = .ok (.invokestatic 64, 3) := by decide +kernel
theorem dX7_against_11 : decode cX7_against 11 = .ok (.ifCond .ne 5, 3) := by decide +kernel
theorem dX7_against_14 : decode cX7_against 14 = .ok (.iconst (-1), 1) := by decide +kernel
theorem dX7_against_15 : decode cX7_against 15 = .ok (.ireturn, 1) := by decide +kernel
theorem dX7_against_16 : decode cX7_against 16 = .ok (.aload_n 0, 1) := by decide +kernel
theorem dX7_against_17 : decode cX7_against 17 = .ok (.getfield 9, 3) := by decide +kernel
theorem dX7_against_20 : decode cX7_against 20 = .ok (.iload_n 1, 1) := by decide +kernel
theorem dX7_against_21 : decode cX7_against 21 = .ok (.iaload, 1) := by decide +kernel
theorem dX7_against_22 : decode cX7_against 22 = .ok (.i2l, 1) := by decide +kernel
theorem dX7_against_23 : decode cX7_against 23 = .ok (.aload_n 0, 1) := by decide +kernel
theorem dX7_against_24 : decode cX7_against 24 = .ok (.getfield 13, 3) := by decide +kernel
theorem dX7_against_27 : decode cX7_against 27 = .ok (.iload_n 2, 1) := by decide +kernel
theorem dX7_against_28 : decode cX7_against 28 = .ok (.iaload, 1) := by decide +kernel
theorem dX7_against_29 : decode cX7_against 29 = .ok (.i2l, 1) := by decide +kernel
theorem dX7_against_30 : decode cX7_against 30 = .ok (.lmul, 1) := by decide +kernel
theorem dX7_against_31 : decode cX7_against 31 = .ok (.lstore_n 3, 1) := by decide +kernel
theorem dX7_against_32 : decode cX7_against 32 = .ok (.aload_n 0, 1) := by decide +kernel
theorem dX7_against_33 : decode cX7_against 33 = .ok (.getfield 9, 3) := by decide +kernel
theorem dX7_against_36 : decode cX7_against 36 = .ok (.iload_n 2, 1) := by decide +kernel
theorem dX7_against_37 : decode cX7_against 37 = .ok (.iaload, 1) := by decide +kernel
theorem dX7_against_38 : decode cX7_against 38 = .ok (.i2l, 1) := by decide +kernel
theorem dX7_against_39 : decode cX7_against 39 = .ok (.aload_n 0, 1) := by decide +kernel
theorem dX7_against_40 : decode cX7_against 40 = .ok (.getfield 13, 3) := by decide +kernel
theorem dX7_against_43 : decode cX7_against 43 = .ok (.iload_n 1, 1) := by decide +kernel
theorem dX7_against_44 : decode cX7_against 44 = .ok (.iaload, 1) := by decide +kernel
theorem dX7_against_45 : decode cX7_against 45 = .ok (.i2l, 1) := by decide +kernel
theorem dX7_against_46 : decode cX7_against 46 = .ok (.lmul, 1) := by decide +kernel
theorem dX7_against_47 : decode cX7_against 47 = .ok (.lstore 5, 2) := by decide +kernel
theorem dX7_against_49 : decode cX7_against 49 = .ok (.lload_n 3, 1) := by decide +kernel
theorem dX7_against_50 : decode cX7_against 50 = .ok (.lload 5, 2) := by decide +kernel
theorem dX7_against_52 : decode cX7_against 52 = .ok (.lcmp, 1) := by decide +kernel
theorem dX7_against_53 : decode cX7_against 53 = .ok (.ifCond .ne 5, 3) := by decide +kernel
theorem dX7_against_56 : decode cX7_against 56 = .ok (.iconst 0, 1) := by decide +kernel
theorem dX7_against_57 : decode cX7_against 57 = .ok (.ireturn, 1) := by decide +kernel
theorem dX7_against_58 : decode cX7_against 58 = .ok (.lload_n 3, 1) := by decide +kernel
theorem dX7_against_59 : decode cX7_against 59 = .ok (.lload 5, 2) := by decide +kernel
theorem dX7_against_61 : decode cX7_against 61 = .ok (.lcmp, 1) := by decide +kernel
theorem dX7_against_62 : decode cX7_against 62 = .ok (.ifCond .le 7, 3) := by decide +kernel
theorem dX7_against_65 : decode cX7_against 65 = .ok (.iconst 1, 1) := by decide +kernel
theorem dX7_against_66 : decode cX7_against 66 = .ok (.goto 4, 3) := by decide +kernel
theorem dX7_against_69 : decode cX7_against 69 = .ok (.iconst 2, 1) := by decide +kernel
theorem dX7_against_70 : decode cX7_against 70 = .ok (.ireturn, 1) := by decide +kernel
abbrev po_X7_against (cI cJ : ClassId) (hX7 : Nat) (aX7_above : Nat) (aX7_below : Nat) (hX3 : Nat) (hX2 : Nat) (hX1 : Nat) (hX6 : Nat) (hX0 : Nat) (hX5 : Nat) (s_above : Int → Int) (s_below : Int → Int) (Q : Int → Prop) : Option Value → va_W → Prop := fun rv w1 => ∃ (r0 : Int), rv = some (.int (i32 r0)) ∧ w1 = [(hX7, .inr (6, [.ref aX7_above, .ref aX7_below, .ref hX3, .ref hX2, .ref hX1, .ref hX6, .ref hX0, .ref hX5])), (aX7_above, aI cI 8 s_above), (aX7_below, aI cI 8 s_below)] ∧ r32 r0 ∧ Q r0
def wp_X7_against_14 (Q : Int → Prop) (s_above : Int → Int) (s_below : Int → Int) : Prop := Q (-1)
set_option maxHeartbeats 4000000 in
set_option maxRecDepth 100000 in
theorem s_X7_against_14 {X : Cx} (g : Gd X cX7_against RX7 (some .int) 7) (hR : X.R = rmL 2 0 0) (hX7 : Nat) (aX7_above : Nat) (aX7_below : Nat) (hX3 : Nat) (hX2 : Nat) (hX1 : Nat) (hX6 : Nat) (hX0 : Nat) (hX5 : Nat) (s_above : Int → Int) (s_below : Int → Int) (r_s_above : rr32 s_above) (r_s_below : rr32 s_below) (Q : Int → Prop) (hF : FQ X 0 0 (po_X7_against X.cI X.cJ hX7 aX7_above aX7_below hX3 hX2 hX1 hX6 hX0 hX5 s_above s_below Q)) : wp_X7_against_14 Q s_above s_below → Wat X 0 0 14 [] [] [(hX7, .inr (6, [.ref aX7_above, .ref aX7_below, .ref hX3, .ref hX2, .ref hX1, .ref hX6, .ref hX0, .ref hX5])), (aX7_above, aI X.cI 8 s_above), (aX7_below, aI X.cI 8 s_below)] := by
  intro h
  rw [wp_X7_against_14] at h
  refine q_iconst g (-1) dX7_against_14 ?_
  exact q_iret g hF ⟨(-1), rfl, rfl, (r32_lit _ (by decide)), h⟩ dX7_against_15
def wp_X7_against_70 (Q : Int → Prop) (s_above : Int → Int) (s_below : Int → Int) (k0 : Int) : Prop := Q k0
set_option maxHeartbeats 4000000 in
set_option maxRecDepth 100000 in
theorem s_X7_against_70 {X : Cx} (g : Gd X cX7_against RX7 (some .int) 7) (hR : X.R = rmL 2 0 0) (hX7 : Nat) (aX7_above : Nat) (aX7_below : Nat) (hX3 : Nat) (hX2 : Nat) (hX1 : Nat) (hX6 : Nat) (hX0 : Nat) (hX5 : Nat) (s_above : Int → Int) (s_below : Int → Int) (r_s_above : rr32 s_above) (r_s_below : rr32 s_below) (Q : Int → Prop) (hF : FQ X 0 0 (po_X7_against X.cI X.cJ hX7 aX7_above aX7_below hX3 hX2 hX1 hX6 hX0 hX5 s_above s_below Q)) : ∀ (k0 : Int), r32 k0 → wp_X7_against_70 Q s_above s_below k0 → Wat X 0 0 70 [] [.int (i32 k0)] [(hX7, .inr (6, [.ref aX7_above, .ref aX7_below, .ref hX3, .ref hX2, .ref hX1, .ref hX6, .ref hX0, .ref hX5])), (aX7_above, aI X.cI 8 s_above), (aX7_below, aI X.cI 8 s_below)] := by
  intro k0 r_k0 h
  rw [wp_X7_against_70] at h
  exact q_iret g hF ⟨k0, rfl, rfl, r_k0, h⟩ dX7_against_70
def wp_X7_against (Q : Int → Prop) (s_above : Int → Int) (s_below : Int → Int) (l1 : Int) (l2 : Int) : Prop := wp_X7_isRegister (fun (x1 : Int) => ((x1 = 0 → wp_X7_against_14 Q s_above s_below) ∧
  (¬ (x1 = 0) → wp_X7_isRegister (fun (x8 : Int) => ((¬ x8 = 0 → (0 ≤ l1 ∧ l1 < 8 ∧ 0 ≤ l2 ∧ l2 < 8 ∧ r64 ((s_above l1) * (s_below l2)) ∧ ∀ x31 : Int, x31 = ((s_above l1) * (s_below l2)) → 0 ≤ l2 ∧ l2 < 8 ∧ 0 ≤ l1 ∧ l1 < 8 ∧ r64 ((s_above l2) * (s_below l1)) ∧ ∀ x47 : Int, x47 = ((s_above l2) * (s_below l1)) → ((¬ x31 = x47 → ((x31 ≤ x47 → wp_X7_against_70 Q s_above s_below 2) ∧
  (¬ (x31 ≤ x47) → wp_X7_against_70 Q s_above s_below 1))) ∧
  (x31 = x47 → Q 0)))) ∧
  (x8 = 0 → wp_X7_against_14 Q s_above s_below))) l2))) l1
set_option maxHeartbeats 4000000 in
set_option maxRecDepth 100000 in
theorem c_X7_against (l : Launch) (D : va_G) (cI cJ : ClassId) (zt : Nat) (hX7 : Nat) (aX7_above : Nat) (aX7_below : Nat) (hX3 : Nat) (hX2 : Nat) (hX1 : Nat) (hX6 : Nat) (hX0 : Nat) (hX5 : Nat) (s_above : Int → Int) (s_below : Int → Int) (l1 : Int) (l2 : Int) (Q : Int → Prop) (r_s_above : rr32 s_above) (r_s_below : rr32 s_below) (r_l1 : r32 l1) (r_l2 : r32 l2) (h : wp_X7_against Q s_above s_below l1 l2) : Ct l D cI cJ zt yX7_against cX7_against 7 (some .int) 2 0 0 [.ref hX7, .int (i32 l1), .int (i32 l2)] [(hX7, .inr (6, [.ref aX7_above, .ref aX7_below, .ref hX3, .ref hX2, .ref hX1, .ref hX6, .ref hX0, .ref hX5])), (aX7_above, aI cI 8 s_above), (aX7_below, aI cI 8 s_below)] (po_X7_against cI cJ hX7 aX7_above aX7_below hX3 hX2 hX1 hX6 hX0 hX5 s_above s_below Q) := by
  refine ct_of (by decide +kernel) (Nat.le_of_ble_eq_true rfl) (fun X hl hDD hcI hcJ hzt hR hF hnm g => ?_)
  subst hl; subst hDD; subst hcI; subst hcJ; subst hzt
  show Wat X 0 0 0 [(0, .ref hX7), (1, .int (i32 l1)), (2, .int (i32 l2))] [] [(hX7, .inr (6, [.ref aX7_above, .ref aX7_below, .ref hX3, .ref hX2, .ref hX1, .ref hX6, .ref hX0, .ref hX5])), (aX7_above, aI X.cI 8 s_above), (aX7_below, aI X.cI 8 s_below)]
  replace g : Gd X cX7_against RX7 (some .int) 7 := g
  rw [wp_X7_against] at h
  refine q_iload_n g 1 1 rfl dX7_against_0 ?_
  refine q_callS (lev := 1) (mc := 0) (ms := 0) (As := [.int (i32 l1)]) g 64 (c_X7_isRegister X.l X.D X.cI X.cJ X.zt l1 _ r_l1 h) (wr := [(hX7, .inr (6, [.ref aX7_above, .ref aX7_below, .ref hX3, .ref hX2, .ref hX1, .ref hX6, .ref hX0, .ref hX5])), (aX7_above, aI X.cI 8 s_above), (aX7_below, aI X.cI 8 s_below)]) [] [0, 1, 2] rfl rfl rfl (by decide) (by decide) (by decide) wM_X7_64 wT_X7_isRegister wZ_X7 wC_X7_isRegister 1 rfl (by decide +kernel) (by rw [hR]; exact ⟨by show 1 + 1 ≤ 2; omega, by show 8 + (1 + 11) + 100 * 1 ≤ 100 * 2; omega⟩) (by rw [hR]; exact ⟨Nat.le_refl _, Nat.le_refl _⟩) (Nat.le_of_ble_eq_true rfl) rfl dX7_against_1 (fun rv w1 hq => ?_)
  obtain ⟨x1, rfl, rfl, rx1, h⟩ := hq
  show Wat X 0 0 4 [(0, .ref hX7), (1, .int (i32 l1)), (2, .int (i32 l2))] [.int (i32 x1)] [(hX7, .inr (6, [.ref aX7_above, .ref aX7_below, .ref hX3, .ref hX2, .ref hX1, .ref hX6, .ref hX0, .ref hX5])), (aX7_above, aI X.cI 8 s_above), (aX7_below, aI X.cI 8 s_below)]
  refine q_if_eq g (10) 14 rx1 (by decide) dX7_against_4 (fun b4 => ?_) (fun b4 => ?_)
  · replace h := h.1 b4
    refine q_lv (lv' := []) [] rfl ?_
    exact s_X7_against_14 g hR hX7 aX7_above aX7_below hX3 hX2 hX1 hX6 hX0 hX5 s_above s_below r_s_above r_s_below Q hF h
  replace h := h.2 b4
  refine q_iload_n g 2 2 rfl dX7_against_7 ?_
  refine q_callS (lev := 1) (mc := 0) (ms := 0) (As := [.int (i32 l2)]) g 64 (c_X7_isRegister X.l X.D X.cI X.cJ X.zt l2 _ r_l2 h) (wr := [(hX7, .inr (6, [.ref aX7_above, .ref aX7_below, .ref hX3, .ref hX2, .ref hX1, .ref hX6, .ref hX0, .ref hX5])), (aX7_above, aI X.cI 8 s_above), (aX7_below, aI X.cI 8 s_below)]) [] [0, 1, 2] rfl rfl rfl (by decide) (by decide) (by decide) wM_X7_64 wT_X7_isRegister wZ_X7 wC_X7_isRegister 1 rfl (by decide +kernel) (by rw [hR]; exact ⟨by show 1 + 1 ≤ 2; omega, by show 8 + (1 + 11) + 100 * 1 ≤ 100 * 2; omega⟩) (by rw [hR]; exact ⟨Nat.le_refl _, Nat.le_refl _⟩) (Nat.le_of_ble_eq_true rfl) rfl dX7_against_8 (fun rv w1 hq => ?_)
  obtain ⟨x8, rfl, rfl, rx8, h⟩ := hq
  show Wat X 0 0 11 [(0, .ref hX7), (1, .int (i32 l1)), (2, .int (i32 l2))] [.int (i32 x8)] [(hX7, .inr (6, [.ref aX7_above, .ref aX7_below, .ref hX3, .ref hX2, .ref hX1, .ref hX6, .ref hX0, .ref hX5])), (aX7_above, aI X.cI 8 s_above), (aX7_below, aI X.cI 8 s_below)]
  refine q_if_ne g (5) 16 rx8 (by decide) dX7_against_11 (fun b11 => ?_) (fun b11 => ?_)
  · replace h := h.1 b11
    refine q_aload_n g 0 0 rfl dX7_against_16 ?_
    refine q_get (C := RX7) (T := TX7) (N := 8) g 9 inX7 0 0 rfl rfl (by decide) wF_X7_9 rfl dX7_against_17 ?_
    refine q_iload_n g 1 1 rfl dX7_against_20 ?_
    obtain ⟨c21, h⟩ := h
    obtain ⟨e21, h⟩ := h
    refine q_iald g 1 rfl c21 e21 (by decide) dX7_against_21 ?_
    refine q_i2l g (r_s_above _) dX7_against_22 ?_
    refine q_aload_n g 0 0 rfl dX7_against_23 ?_
    refine q_get (C := RX7) (T := TX7) (N := 8) g 13 inX7 0 1 rfl rfl (by decide) wF_X7_13 rfl dX7_against_24 ?_
    refine q_iload_n g 2 2 rfl dX7_against_27 ?_
    obtain ⟨c28, h⟩ := h
    obtain ⟨e28, h⟩ := h
    refine q_iald g 2 rfl c28 e28 (by decide) dX7_against_28 ?_
    refine q_i2l g (r_s_below _) dX7_against_29 ?_
    obtain ⟨c30, h⟩ := h
    refine q_lmul g dX7_against_30 ?_
    refine q_topl c30 (fun x31 ex31 rx31 => ?_)
    replace h := h x31 ex31
    refine q_lstore_n (lv' := [(3, .long (i64 x31)), (0, .ref hX7), (1, .int (i32 l1)), (2, .int (i32 l2))]) g 3 3 rfl (by decide) rfl dX7_against_31 ?_
    refine q_aload_n g 0 1 rfl dX7_against_32 ?_
    refine q_get (C := RX7) (T := TX7) (N := 8) g 9 inX7 0 0 rfl rfl (by decide) wF_X7_9 rfl dX7_against_33 ?_
    refine q_iload_n g 2 3 rfl dX7_against_36 ?_
    obtain ⟨c37, h⟩ := h
    obtain ⟨e37, h⟩ := h
    refine q_iald g 1 rfl c37 e37 (by decide) dX7_against_37 ?_
    refine q_i2l g (r_s_above _) dX7_against_38 ?_
    refine q_aload_n g 0 1 rfl dX7_against_39 ?_
    refine q_get (C := RX7) (T := TX7) (N := 8) g 13 inX7 0 1 rfl rfl (by decide) wF_X7_13 rfl dX7_against_40 ?_
    refine q_iload_n g 1 2 rfl dX7_against_43 ?_
    obtain ⟨c44, h⟩ := h
    obtain ⟨e44, h⟩ := h
    refine q_iald g 2 rfl c44 e44 (by decide) dX7_against_44 ?_
    refine q_i2l g (r_s_below _) dX7_against_45 ?_
    obtain ⟨c46, h⟩ := h
    refine q_lmul g dX7_against_46 ?_
    refine q_topl c46 (fun x47 ex47 rx47 => ?_)
    replace h := h x47 ex47
    refine q_lstore (lv' := [(5, .long (i64 x47)), (3, .long (i64 x31)), (0, .ref hX7), (1, .int (i32 l1)), (2, .int (i32 l2))]) g 5   (by decide) rfl dX7_against_47 ?_
    refine q_lload_n g 3 1 rfl dX7_against_49 ?_
    refine q_lload g 5 0 rfl dX7_against_50 ?_
    refine q_lcmp_ne g (5) 58 rx31 rx47 (by decide) dX7_against_52 dX7_against_53 (fun b52 => ?_) (fun b52 => ?_)
    · replace h := h.1 b52
      refine q_lload_n g 3 1 rfl dX7_against_58 ?_
      refine q_lload g 5 0 rfl dX7_against_59 ?_
      refine q_lcmp_le g (7) 69 rx31 rx47 (by decide) dX7_against_61 dX7_against_62 (fun b61 => ?_) (fun b61 => ?_)
      · replace h := h.1 b61
        refine q_iconst g (2) dX7_against_69 ?_
        refine q_lv (lv' := []) [] rfl ?_
        exact s_X7_against_70 g hR hX7 aX7_above aX7_below hX3 hX2 hX1 hX6 hX0 hX5 s_above s_below r_s_above r_s_below Q hF 2 (r32_lit _ (by decide)) h
      replace h := h.2 b61
      refine q_iconst g (1) dX7_against_65 ?_
      refine q_goto g (4) 70 (by decide) dX7_against_66 ?_
      refine q_lv (lv' := []) [] rfl ?_
      exact s_X7_against_70 g hR hX7 aX7_above aX7_below hX3 hX2 hX1 hX6 hX0 hX5 s_above s_below r_s_above r_s_below Q hF 1 (r32_lit _ (by decide)) h
    replace h := h.2 b52
    refine q_iconst g (0) dX7_against_56 ?_
    exact q_iret g hF ⟨0, rfl, rfl, (r32_lit _ (by decide)), h⟩ dX7_against_57
  replace h := h.2 b11
  refine q_lv (lv' := []) [] rfl ?_
  exact s_X7_against_14 g hR hX7 aX7_above aX7_below hX3 hX2 hX1 hX6 hX0 hX5 s_above s_below r_s_above r_s_below Q hF h
theorem dX7_beside_0 : decode cX7_beside 0 = .ok (.iload_n 1, 1) := by decide +kernel
theorem dX7_beside_1 : decode cX7_beside 1 = .ok (.ifCond .ge 5, 3) := by decide +kernel
theorem dX7_beside_4 : decode cX7_beside 4 = .ok (.iconst (-1), 1) := by decide +kernel
theorem dX7_beside_5 : decode cX7_beside 5 = .ok (.ireturn, 1) := by decide +kernel
theorem dX7_beside_6 : decode cX7_beside 6 = .ok (.aload_n 0, 1) := by decide +kernel
theorem dX7_beside_7 : decode cX7_beside 7 = .ok (.getfield 33, 3) := by decide +kernel
theorem dX7_beside_10 : decode cX7_beside 10 = .ok (.invokevirtual 110, 3) := by decide +kernel
theorem dX7_beside_13 : decode cX7_beside 13 = .ok (.ifCond .eq 14, 3) := by decide +kernel
theorem dX7_beside_16 : decode cX7_beside 16 = .ok (.iload_n 1, 1) := by decide +kernel
theorem dX7_beside_17 : decode cX7_beside 17 = .ok (.aload_n 0, 1) := by decide +kernel
theorem dX7_beside_18 : decode cX7_beside 18 = .ok (.getfield 33, 3) := by decide +kernel
theorem dX7_beside_21 : decode cX7_beside 21 = .ok (.invokevirtual 114, 3) := by decide +kernel
theorem dX7_beside_24 : decode cX7_beside 24 = .ok (.if_icmp .lt 6, 3) := by decide +kernel
theorem dX7_beside_27 : decode cX7_beside 27 = .ok (.bipush (-2), 2) := by decide +kernel
theorem dX7_beside_29 : decode cX7_beside 29 = .ok (.ireturn, 1) := by decide +kernel
theorem dX7_beside_30 : decode cX7_beside 30 = .ok (.aload_n 0, 1) := by decide +kernel
theorem dX7_beside_31 : decode cX7_beside 31 = .ok (.getfield 33, 3) := by decide +kernel
theorem dX7_beside_34 : decode cX7_beside 34 = .ok (.iload_n 1, 1) := by decide +kernel
theorem dX7_beside_35 : decode cX7_beside 35 = .ok (.invokevirtual 145, 3) := by decide +kernel
theorem dX7_beside_38 : decode cX7_beside 38 = .ok (.ireturn, 1) := by decide +kernel
abbrev po_X7_beside (cI cJ : ClassId) (hX7 : Nat) (aX7_above : Nat) (aX7_below : Nat) (hX3 : Nat) (hX2 : Nat) (hX1 : Nat) (hX6 : Nat) (hX0 : Nat) (hX5 : Nat) (aX1_rows : Nat) (aX1_ones : Nat) (aX1_twos : Nat) (aX1_distances : Nat) (aX1_reached : Nat) (f_swaps : Int) (f_there : Int) (f_size : Int) (f_mostShares : Int) (f_source : Int) (f_looked : Int) (f_ends : Int) (f_rows : Int → Int) (f_ones : Int → Int) (f_twos : Int → Int) (Q : Int → Prop) : Option Value → va_W → Prop := fun rv w1 => ∃ (r0 : Int), rv = some (.int (i32 r0)) ∧ w1 = [(hX7, .inr (6, [.ref aX7_above, .ref aX7_below, .ref hX3, .ref hX2, .ref hX1, .ref hX6, .ref hX0, .ref hX5])), (hX1, .inr (1, [.ref aX1_rows, .ref aX1_ones, .ref aX1_twos, .ref aX1_distances, .ref aX1_reached, .int (i32 f_swaps), .int (i32 f_there), .int (i32 f_size), .int (i32 f_mostShares), .int (i32 f_source), .int (i32 f_looked), .int (i32 f_ends)])), (aX1_rows, aL cJ 2001 f_rows), (aX1_ones, aL cJ 31 f_ones), (aX1_twos, aL cJ 31 f_twos)] ∧ r32 r0 ∧ Q r0
def wp_X7_beside_27 (Q : Int → Prop) (f_rows : Int → Int) (f_ones : Int → Int) (f_twos : Int → Int) (f_swaps : Int) (f_there : Int) (f_size : Int) (f_mostShares : Int) : Prop := Q (-2)
set_option maxHeartbeats 4000000 in
set_option maxRecDepth 100000 in
theorem s_X7_beside_27 {X : Cx} (g : Gd X cX7_beside RX7 (some .int) 2) (hR : X.R = rmL 4 0 0) (hX7 : Nat) (aX7_above : Nat) (aX7_below : Nat) (hX3 : Nat) (hX2 : Nat) (hX1 : Nat) (hX6 : Nat) (hX0 : Nat) (hX5 : Nat) (aX1_rows : Nat) (aX1_ones : Nat) (aX1_twos : Nat) (aX1_distances : Nat) (aX1_reached : Nat) (f_source : Int) (f_looked : Int) (f_ends : Int) (f_rows : Int → Int) (f_ones : Int → Int) (f_twos : Int → Int) (f_swaps : Int) (f_there : Int) (f_size : Int) (f_mostShares : Int) (r_f_rows : rr64 f_rows) (r_f_ones : rr64 f_ones) (r_f_twos : rr64 f_twos) (r_f_swaps : r32 f_swaps) (r_f_there : r32 f_there) (r_f_size : r32 f_size) (r_f_mostShares : r32 f_mostShares) (Q : Int → Prop) (hF : FQ X 0 0 (po_X7_beside X.cI X.cJ hX7 aX7_above aX7_below hX3 hX2 hX1 hX6 hX0 hX5 aX1_rows aX1_ones aX1_twos aX1_distances aX1_reached f_swaps f_there f_size f_mostShares f_source f_looked f_ends f_rows f_ones f_twos Q)) : wp_X7_beside_27 Q f_rows f_ones f_twos f_swaps f_there f_size f_mostShares → Wat X 0 0 27 [] [] [(hX7, .inr (6, [.ref aX7_above, .ref aX7_below, .ref hX3, .ref hX2, .ref hX1, .ref hX6, .ref hX0, .ref hX5])), (hX1, .inr (1, [.ref aX1_rows, .ref aX1_ones, .ref aX1_twos, .ref aX1_distances, .ref aX1_reached, .int (i32 f_swaps), .int (i32 f_there), .int (i32 f_size), .int (i32 f_mostShares), .int (i32 f_source), .int (i32 f_looked), .int (i32 f_ends)])), (aX1_rows, aL X.cJ 2001 f_rows), (aX1_ones, aL X.cJ 31 f_ones), (aX1_twos, aL X.cJ 31 f_twos)] := by
  intro h
  rw [wp_X7_beside_27] at h
  refine q_bipush g (-2) (by decide) (by decide) dX7_beside_27 ?_
  exact q_iret g hF ⟨(-2), rfl, rfl, (r32_lit _ (by decide)), h⟩ dX7_beside_29
def wp_X7_beside (Q : Int → Prop) (f_rows : Int → Int) (f_ones : Int → Int) (f_twos : Int → Int) (f_swaps : Int) (f_there : Int) (f_size : Int) (f_mostShares : Int) (l1 : Int) : Prop := ((0 ≤ l1 → wp_X1_isThere (fun (x10 : Int) => ((x10 = 0 → wp_X7_beside_27 Q f_rows f_ones f_twos f_swaps f_there f_size f_mostShares) ∧
  (¬ (x10 = 0) → wp_X1_size (fun (x21 : Int) => ((l1 < x21 → wp_X1_neighbours (fun (x35 : Int) => Q x35) f_rows f_ones f_twos f_swaps f_size f_mostShares l1) ∧
  (¬ (l1 < x21) → wp_X7_beside_27 Q f_rows f_ones f_twos f_swaps f_there f_size f_mostShares))) f_size))) f_there) ∧
  (¬ (0 ≤ l1) → Q (-1)))
set_option maxHeartbeats 4000000 in
set_option maxRecDepth 100000 in
theorem c_X7_beside (l : Launch) (D : va_G) (cI cJ : ClassId) (zt : Nat) (hX7 : Nat) (aX7_above : Nat) (aX7_below : Nat) (hX3 : Nat) (hX2 : Nat) (hX1 : Nat) (hX6 : Nat) (hX0 : Nat) (hX5 : Nat) (aX1_rows : Nat) (aX1_ones : Nat) (aX1_twos : Nat) (aX1_distances : Nat) (aX1_reached : Nat) (f_swaps : Int) (f_there : Int) (f_size : Int) (f_mostShares : Int) (f_source : Int) (f_looked : Int) (f_ends : Int) (f_rows : Int → Int) (f_ones : Int → Int) (f_twos : Int → Int) (l1 : Int) (Q : Int → Prop) (r_f_rows : rr64 f_rows) (r_f_ones : rr64 f_ones) (r_f_twos : rr64 f_twos) (r_f_swaps : r32 f_swaps) (r_f_there : r32 f_there) (r_f_size : r32 f_size) (r_f_mostShares : r32 f_mostShares) (r_l1 : r32 l1) (h : wp_X7_beside Q f_rows f_ones f_twos f_swaps f_there f_size f_mostShares l1) : Ct l D cI cJ zt yX7_beside cX7_beside 2 (some .int) 4 0 0 [.ref hX7, .int (i32 l1)] [(hX7, .inr (6, [.ref aX7_above, .ref aX7_below, .ref hX3, .ref hX2, .ref hX1, .ref hX6, .ref hX0, .ref hX5])), (hX1, .inr (1, [.ref aX1_rows, .ref aX1_ones, .ref aX1_twos, .ref aX1_distances, .ref aX1_reached, .int (i32 f_swaps), .int (i32 f_there), .int (i32 f_size), .int (i32 f_mostShares), .int (i32 f_source), .int (i32 f_looked), .int (i32 f_ends)])), (aX1_rows, aL cJ 2001 f_rows), (aX1_ones, aL cJ 31 f_ones), (aX1_twos, aL cJ 31 f_twos)] (po_X7_beside cI cJ hX7 aX7_above aX7_below hX3 hX2 hX1 hX6 hX0 hX5 aX1_rows aX1_ones aX1_twos aX1_distances aX1_reached f_swaps f_there f_size f_mostShares f_source f_looked f_ends f_rows f_ones f_twos Q) := by
  refine ct_of (by decide +kernel) (Nat.le_of_ble_eq_true rfl) (fun X hl hDD hcI hcJ hzt hR hF hnm g => ?_)
  subst hl; subst hDD; subst hcI; subst hcJ; subst hzt
  show Wat X 0 0 0 [(0, .ref hX7), (1, .int (i32 l1))] [] [(hX7, .inr (6, [.ref aX7_above, .ref aX7_below, .ref hX3, .ref hX2, .ref hX1, .ref hX6, .ref hX0, .ref hX5])), (hX1, .inr (1, [.ref aX1_rows, .ref aX1_ones, .ref aX1_twos, .ref aX1_distances, .ref aX1_reached, .int (i32 f_swaps), .int (i32 f_there), .int (i32 f_size), .int (i32 f_mostShares), .int (i32 f_source), .int (i32 f_looked), .int (i32 f_ends)])), (aX1_rows, aL X.cJ 2001 f_rows), (aX1_ones, aL X.cJ 31 f_ones), (aX1_twos, aL X.cJ 31 f_twos)]
  replace g : Gd X cX7_beside RX7 (some .int) 2 := g
  rw [wp_X7_beside] at h
  refine q_iload_n g 1 1 rfl dX7_beside_0 ?_
  refine q_if_ge g (5) 6 r_l1 (by decide) dX7_beside_1 (fun b1 => ?_) (fun b1 => ?_)
  · replace h := h.1 b1
    refine q_aload_n g 0 0 rfl dX7_beside_6 ?_
    refine q_get (C := RX7) (T := TX7) (N := 8) g 33 inX7 0 4 rfl rfl (by decide) wF_X7_33 rfl dX7_beside_7 ?_
    refine q_callV (lev := 1) (mc := 0) (ms := 0) g 110 (c_X1_isThere X.l X.D X.cI X.cJ X.zt hX1 aX1_rows aX1_ones aX1_twos aX1_distances aX1_reached f_swaps f_there f_size f_mostShares f_source f_looked f_ends _ r_f_there h) (wr := [(hX7, .inr (6, [.ref aX7_above, .ref aX7_below, .ref hX3, .ref hX2, .ref hX1, .ref hX6, .ref hX0, .ref hX5])), (aX1_rows, aL X.cJ 2001 f_rows), (aX1_ones, aL X.cJ 31 f_ones), (aX1_twos, aL X.cJ 31 f_twos)]) [1] [0, 2, 3, 4] rfl rfl rfl (by decide) (by decide) (by decide) (ci := 1) rfl rfl rfl wM_X7_110 wI_X1_isThere wS_X1_isThere wZ_X1 wC_X1_isThere 0 rfl (by decide +kernel) (by rw [hR]; exact ⟨by show 1 + 1 ≤ 4; omega, by show 8 + (1 + 11) + 100 * 1 ≤ 100 * 4; omega⟩) (by rw [hR]; exact ⟨Nat.le_refl _, Nat.le_refl _⟩) (Nat.le_of_ble_eq_true rfl) rfl dX7_beside_10 (fun rv w1 hq => ?_)
    obtain ⟨x10, rfl, rfl, rx10, h⟩ := hq
    refine q_ws (ws' := [(hX7, .inr (6, [.ref aX7_above, .ref aX7_below, .ref hX3, .ref hX2, .ref hX1, .ref hX6, .ref hX0, .ref hX5])), (hX1, .inr (1, [.ref aX1_rows, .ref aX1_ones, .ref aX1_twos, .ref aX1_distances, .ref aX1_reached, .int (i32 f_swaps), .int (i32 f_there), .int (i32 f_size), .int (i32 f_mostShares), .int (i32 f_source), .int (i32 f_looked), .int (i32 f_ends)])), (aX1_rows, aL X.cJ 2001 f_rows), (aX1_ones, aL X.cJ 31 f_ones), (aX1_twos, aL X.cJ 31 f_twos)]) [0, 4, 1, 2, 3] (by decide) rfl rfl ?_
    show Wat X 0 0 13 [(0, .ref hX7), (1, .int (i32 l1))] [.int (i32 x10)] [(hX7, .inr (6, [.ref aX7_above, .ref aX7_below, .ref hX3, .ref hX2, .ref hX1, .ref hX6, .ref hX0, .ref hX5])), (hX1, .inr (1, [.ref aX1_rows, .ref aX1_ones, .ref aX1_twos, .ref aX1_distances, .ref aX1_reached, .int (i32 f_swaps), .int (i32 f_there), .int (i32 f_size), .int (i32 f_mostShares), .int (i32 f_source), .int (i32 f_looked), .int (i32 f_ends)])), (aX1_rows, aL X.cJ 2001 f_rows), (aX1_ones, aL X.cJ 31 f_ones), (aX1_twos, aL X.cJ 31 f_twos)]
    refine q_if_eq g (14) 27 rx10 (by decide) dX7_beside_13 (fun b13 => ?_) (fun b13 => ?_)
    · replace h := h.1 b13
      refine q_lv (lv' := []) [] rfl ?_
      exact s_X7_beside_27 g hR hX7 aX7_above aX7_below hX3 hX2 hX1 hX6 hX0 hX5 aX1_rows aX1_ones aX1_twos aX1_distances aX1_reached f_source f_looked f_ends f_rows f_ones f_twos f_swaps f_there f_size f_mostShares r_f_rows r_f_ones r_f_twos r_f_swaps r_f_there r_f_size r_f_mostShares Q hF h
    replace h := h.2 b13
    refine q_iload_n g 1 1 rfl dX7_beside_16 ?_
    refine q_aload_n g 0 0 rfl dX7_beside_17 ?_
    refine q_get (C := RX7) (T := TX7) (N := 8) g 33 inX7 0 4 rfl rfl (by decide) wF_X7_33 rfl dX7_beside_18 ?_
    refine q_callV (lev := 1) (mc := 0) (ms := 0) g 114 (c_X1_size X.l X.D X.cI X.cJ X.zt hX1 aX1_rows aX1_ones aX1_twos aX1_distances aX1_reached f_swaps f_there f_size f_mostShares f_source f_looked f_ends _ r_f_size h) (wr := [(hX7, .inr (6, [.ref aX7_above, .ref aX7_below, .ref hX3, .ref hX2, .ref hX1, .ref hX6, .ref hX0, .ref hX5])), (aX1_rows, aL X.cJ 2001 f_rows), (aX1_ones, aL X.cJ 31 f_ones), (aX1_twos, aL X.cJ 31 f_twos)]) [1] [0, 2, 3, 4] rfl rfl rfl (by decide) (by decide) (by decide) (ci := 1) rfl rfl rfl wM_X7_114 wI_X1_size wS_X1_size wZ_X1 wC_X1_size 0 rfl (by decide +kernel) (by rw [hR]; exact ⟨by show 1 + 1 ≤ 4; omega, by show 8 + (1 + 11) + 100 * 1 ≤ 100 * 4; omega⟩) (by rw [hR]; exact ⟨Nat.le_refl _, Nat.le_refl _⟩) (Nat.le_of_ble_eq_true rfl) rfl dX7_beside_21 (fun rv w1 hq => ?_)
    obtain ⟨x21, rfl, rfl, rx21, h⟩ := hq
    refine q_ws (ws' := [(hX7, .inr (6, [.ref aX7_above, .ref aX7_below, .ref hX3, .ref hX2, .ref hX1, .ref hX6, .ref hX0, .ref hX5])), (hX1, .inr (1, [.ref aX1_rows, .ref aX1_ones, .ref aX1_twos, .ref aX1_distances, .ref aX1_reached, .int (i32 f_swaps), .int (i32 f_there), .int (i32 f_size), .int (i32 f_mostShares), .int (i32 f_source), .int (i32 f_looked), .int (i32 f_ends)])), (aX1_rows, aL X.cJ 2001 f_rows), (aX1_ones, aL X.cJ 31 f_ones), (aX1_twos, aL X.cJ 31 f_twos)]) [0, 4, 1, 2, 3] (by decide) rfl rfl ?_
    show Wat X 0 0 24 [(0, .ref hX7), (1, .int (i32 l1))] [.int (i32 x21), .int (i32 l1)] [(hX7, .inr (6, [.ref aX7_above, .ref aX7_below, .ref hX3, .ref hX2, .ref hX1, .ref hX6, .ref hX0, .ref hX5])), (hX1, .inr (1, [.ref aX1_rows, .ref aX1_ones, .ref aX1_twos, .ref aX1_distances, .ref aX1_reached, .int (i32 f_swaps), .int (i32 f_there), .int (i32 f_size), .int (i32 f_mostShares), .int (i32 f_source), .int (i32 f_looked), .int (i32 f_ends)])), (aX1_rows, aL X.cJ 2001 f_rows), (aX1_ones, aL X.cJ 31 f_ones), (aX1_twos, aL X.cJ 31 f_twos)]
    refine q_icmp_lt g (6) 30 r_l1 rx21 (by decide) dX7_beside_24 (fun b24 => ?_) (fun b24 => ?_)
    · replace h := h.1 b24
      refine q_aload_n g 0 0 rfl dX7_beside_30 ?_
      refine q_get (C := RX7) (T := TX7) (N := 8) g 33 inX7 0 4 rfl rfl (by decide) wF_X7_33 rfl dX7_beside_31 ?_
      refine q_iload_n g 1 1 rfl dX7_beside_34 ?_
      refine q_callV (lev := 3) (mc := 0) (ms := 0) g 145 (c_X1_neighbours X.l X.D X.cI X.cJ X.zt hX1 aX1_rows aX1_ones aX1_twos aX1_distances aX1_reached f_swaps f_there f_size f_mostShares f_source f_looked f_ends f_rows f_ones f_twos l1 _ r_f_rows r_f_ones r_f_twos r_f_swaps r_f_size r_f_mostShares r_l1 h) (wr := [(hX7, .inr (6, [.ref aX7_above, .ref aX7_below, .ref hX3, .ref hX2, .ref hX1, .ref hX6, .ref hX0, .ref hX5]))]) [1, 2, 3, 4] [0] rfl rfl rfl (by decide) (by decide) (by decide) (ci := 1) rfl rfl rfl wM_X7_145 wI_X1_neighbours wS_X1_neighbours wZ_X1 wC_X1_neighbours 1 rfl (by decide +kernel) (by rw [hR]; exact ⟨by show 3 + 1 ≤ 4; omega, by show 8 + (4 + 11) + 100 * 3 ≤ 100 * 4; omega⟩) (by rw [hR]; exact ⟨Nat.le_refl _, Nat.le_refl _⟩) (Nat.le_of_ble_eq_true rfl) rfl dX7_beside_35 (fun rv w1 hq => ?_)
      obtain ⟨x35, rfl, rfl, rx35, h⟩ := hq
      show Wat X 0 0 38 [(0, .ref hX7), (1, .int (i32 l1))] [.int (i32 x35)] [(hX7, .inr (6, [.ref aX7_above, .ref aX7_below, .ref hX3, .ref hX2, .ref hX1, .ref hX6, .ref hX0, .ref hX5])), (hX1, .inr (1, [.ref aX1_rows, .ref aX1_ones, .ref aX1_twos, .ref aX1_distances, .ref aX1_reached, .int (i32 f_swaps), .int (i32 f_there), .int (i32 f_size), .int (i32 f_mostShares), .int (i32 f_source), .int (i32 f_looked), .int (i32 f_ends)])), (aX1_rows, aL X.cJ 2001 f_rows), (aX1_ones, aL X.cJ 31 f_ones), (aX1_twos, aL X.cJ 31 f_twos)]
      exact q_iret g hF ⟨x35, rfl, rfl, rx35, h⟩ dX7_beside_38
    replace h := h.2 b24
    refine q_lv (lv' := []) [] rfl ?_
    exact s_X7_beside_27 g hR hX7 aX7_above aX7_below hX3 hX2 hX1 hX6 hX0 hX5 aX1_rows aX1_ones aX1_twos aX1_distances aX1_reached f_source f_looked f_ends f_rows f_ones f_twos f_swaps f_there f_size f_mostShares r_f_rows r_f_ones r_f_twos r_f_swaps r_f_there r_f_size r_f_mostShares Q hF h
  replace h := h.2 b1
  refine q_iconst g (-1) dX7_beside_4 ?_
  exact q_iret g hF ⟨(-1), rfl, rfl, (r32_lit _ (by decide)), h⟩ dX7_beside_5
theorem dX7_best_0 : decode cX7_best 0 = .ok (.aload_n 0, 1) := by decide +kernel
theorem dX7_best_1 : decode cX7_best 1 = .ok (.getfield 33, 3) := by decide +kernel
theorem dX7_best_4 : decode cX7_best 4 = .ok (.invokevirtual 110, 3) := by decide +kernel
theorem dX7_best_7 : decode cX7_best 7 = .ok (.ifCond .eq 15, 3) := by decide +kernel
theorem dX7_best_10 : decode cX7_best 10 = .ok (.aload_n 0, 1) := by decide +kernel
theorem dX7_best_11 : decode cX7_best 11 = .ok (.getfield 40, 3) := by decide +kernel
theorem dX7_best_14 : decode cX7_best 14 = .ok (.invokevirtual 135, 3) := by decide +kernel
theorem dX7_best_17 : decode cX7_best 17 = .ok (.bipush (-4), 2) := by decide +kernel
theorem dX7_best_19 : decode cX7_best 19 = .ok (.if_icmp .eq 6, 3) := by decide +kernel
theorem dX7_best_22 : decode cX7_best 22 = .ok (.bipush (-2), 2) := by decide +kernel
theorem dX7_best_24 : decode cX7_best 24 = .ok (.ireturn, 1) := by decide +kernel
theorem dX7_best_25 : decode cX7_best 25 = .ok (.aload_n 0, 1) := by decide +kernel
theorem dX7_best_26 : decode cX7_best 26 = .ok (.getfield 33, 3) := by decide +kernel
theorem dX7_best_29 : decode cX7_best 29 = .ok (.invokevirtual 114, 3) := by decide +kernel
theorem dX7_best_32 : decode cX7_best 32 = .ok (.ifCond .ne 8, 3) := by decide +kernel
theorem dX7_best_35 : decode cX7_best 35 = .ok (.bipush (-4), 2) := by decide +kernel
theorem dX7_best_37 : decode cX7_best 37 = .ok (.goto 14, 3) := by decide +kernel
theorem dX7_best_40 : decode cX7_best 40 = .ok (.aload_n 0, 1) := by decide +kernel
theorem dX7_best_41 : decode cX7_best 41 = .ok (.getfield 40, 3) := by decide +kernel
theorem dX7_best_44 : decode cX7_best 44 = .ok (.aload_n 0, 1) := by decide +kernel
theorem dX7_best_45 : decode cX7_best 45 = .ok (.getfield 33, 3) := by decide +kernel
theorem dX7_best_48 : decode cX7_best 48 = .ok (.invokevirtual 138, 3) := by decide +kernel
theorem dX7_best_51 : decode cX7_best 51 = .ok (.ireturn, 1) := by decide +kernel
abbrev po_X7_best (cI cJ : ClassId) (hX7 : Nat) (aX7_above : Nat) (aX7_below : Nat) (hX3 : Nat) (hX2 : Nat) (hX1 : Nat) (hX6 : Nat) (hX0 : Nat) (hX5 : Nat) (aX1_rows : Nat) (aX1_ones : Nat) (aX1_twos : Nat) (aX1_distances : Nat) (aX1_reached : Nat) (f_swaps : Int) (f_there : Int) (f_size : Int) (f_mostShares : Int) (f_source : Int) (f_looked : Int) (f_ends : Int) (aX6_letters : Nat) (w_size : Int) (w_wrong : Int) (f_rows : Int → Int) (w_letters : Int → Int) (Q : Int → Prop) : Option Value → va_W → Prop := fun rv w1 => ∃ (r0 : Int), rv = some (.int (i32 r0)) ∧ w1 = [(hX7, .inr (6, [.ref aX7_above, .ref aX7_below, .ref hX3, .ref hX2, .ref hX1, .ref hX6, .ref hX0, .ref hX5])), (hX1, .inr (1, [.ref aX1_rows, .ref aX1_ones, .ref aX1_twos, .ref aX1_distances, .ref aX1_reached, .int (i32 f_swaps), .int (i32 f_there), .int (i32 f_size), .int (i32 f_mostShares), .int (i32 f_source), .int (i32 f_looked), .int (i32 f_ends)])), (hX6, .inr (5, [.ref aX6_letters, .int (i32 w_size), .int (i32 w_wrong)])), (aX1_rows, aL cJ 2001 f_rows), (aX6_letters, aI cI 8 w_letters)] ∧ r32 r0 ∧ Q r0
def wp_X7_best_22 (Q : Int → Prop) (f_rows : Int → Int) (f_there : Int) (f_size : Int) (w_letters : Int → Int) (w_size : Int) (w_wrong : Int) : Prop := Q (-2)
set_option maxHeartbeats 4000000 in
set_option maxRecDepth 100000 in
theorem s_X7_best_22 {X : Cx} (g : Gd X cX7_best RX7 (some .int) 1) (hR : X.R = rmL 6 0 0) (hX7 : Nat) (aX7_above : Nat) (aX7_below : Nat) (hX3 : Nat) (hX2 : Nat) (hX1 : Nat) (hX6 : Nat) (hX0 : Nat) (hX5 : Nat) (aX1_rows : Nat) (aX1_ones : Nat) (aX1_twos : Nat) (aX1_distances : Nat) (aX1_reached : Nat) (f_swaps : Int) (f_mostShares : Int) (f_source : Int) (f_looked : Int) (f_ends : Int) (aX6_letters : Nat) (f_rows : Int → Int) (f_there : Int) (f_size : Int) (w_letters : Int → Int) (w_size : Int) (w_wrong : Int) (r_f_rows : rr64 f_rows) (r_f_there : r32 f_there) (r_f_size : r32 f_size) (r_w_letters : rr32 w_letters) (r_w_size : r32 w_size) (r_w_wrong : r32 w_wrong) (Q : Int → Prop) (hF : FQ X 0 0 (po_X7_best X.cI X.cJ hX7 aX7_above aX7_below hX3 hX2 hX1 hX6 hX0 hX5 aX1_rows aX1_ones aX1_twos aX1_distances aX1_reached f_swaps f_there f_size f_mostShares f_source f_looked f_ends aX6_letters w_size w_wrong f_rows w_letters Q)) : wp_X7_best_22 Q f_rows f_there f_size w_letters w_size w_wrong → Wat X 0 0 22 [] [] [(hX7, .inr (6, [.ref aX7_above, .ref aX7_below, .ref hX3, .ref hX2, .ref hX1, .ref hX6, .ref hX0, .ref hX5])), (hX1, .inr (1, [.ref aX1_rows, .ref aX1_ones, .ref aX1_twos, .ref aX1_distances, .ref aX1_reached, .int (i32 f_swaps), .int (i32 f_there), .int (i32 f_size), .int (i32 f_mostShares), .int (i32 f_source), .int (i32 f_looked), .int (i32 f_ends)])), (hX6, .inr (5, [.ref aX6_letters, .int (i32 w_size), .int (i32 w_wrong)])), (aX1_rows, aL X.cJ 2001 f_rows), (aX6_letters, aI X.cI 8 w_letters)] := by
  intro h
  rw [wp_X7_best_22] at h
  refine q_bipush g (-2) (by decide) (by decide) dX7_best_22 ?_
  exact q_iret g hF ⟨(-2), rfl, rfl, (r32_lit _ (by decide)), h⟩ dX7_best_24
def wp_X7_best_51 (Q : Int → Prop) (f_rows : Int → Int) (f_there : Int) (f_size : Int) (w_letters : Int → Int) (w_size : Int) (w_wrong : Int) (k0 : Int) : Prop := Q k0
set_option maxHeartbeats 4000000 in
set_option maxRecDepth 100000 in
theorem s_X7_best_51 {X : Cx} (g : Gd X cX7_best RX7 (some .int) 1) (hR : X.R = rmL 6 0 0) (hX7 : Nat) (aX7_above : Nat) (aX7_below : Nat) (hX3 : Nat) (hX2 : Nat) (hX1 : Nat) (hX6 : Nat) (hX0 : Nat) (hX5 : Nat) (aX1_rows : Nat) (aX1_ones : Nat) (aX1_twos : Nat) (aX1_distances : Nat) (aX1_reached : Nat) (f_swaps : Int) (f_mostShares : Int) (f_source : Int) (f_looked : Int) (f_ends : Int) (aX6_letters : Nat) (f_rows : Int → Int) (f_there : Int) (f_size : Int) (w_letters : Int → Int) (w_size : Int) (w_wrong : Int) (r_f_rows : rr64 f_rows) (r_f_there : r32 f_there) (r_f_size : r32 f_size) (r_w_letters : rr32 w_letters) (r_w_size : r32 w_size) (r_w_wrong : r32 w_wrong) (Q : Int → Prop) (hF : FQ X 0 0 (po_X7_best X.cI X.cJ hX7 aX7_above aX7_below hX3 hX2 hX1 hX6 hX0 hX5 aX1_rows aX1_ones aX1_twos aX1_distances aX1_reached f_swaps f_there f_size f_mostShares f_source f_looked f_ends aX6_letters w_size w_wrong f_rows w_letters Q)) : ∀ (k0 : Int), r32 k0 → wp_X7_best_51 Q f_rows f_there f_size w_letters w_size w_wrong k0 → Wat X 0 0 51 [] [.int (i32 k0)] [(hX7, .inr (6, [.ref aX7_above, .ref aX7_below, .ref hX3, .ref hX2, .ref hX1, .ref hX6, .ref hX0, .ref hX5])), (hX1, .inr (1, [.ref aX1_rows, .ref aX1_ones, .ref aX1_twos, .ref aX1_distances, .ref aX1_reached, .int (i32 f_swaps), .int (i32 f_there), .int (i32 f_size), .int (i32 f_mostShares), .int (i32 f_source), .int (i32 f_looked), .int (i32 f_ends)])), (hX6, .inr (5, [.ref aX6_letters, .int (i32 w_size), .int (i32 w_wrong)])), (aX1_rows, aL X.cJ 2001 f_rows), (aX6_letters, aI X.cI 8 w_letters)] := by
  intro k0 r_k0 h
  rw [wp_X7_best_51] at h
  exact q_iret g hF ⟨k0, rfl, rfl, r_k0, h⟩ dX7_best_51
def wp_X7_best (Q : Int → Prop) (f_rows : Int → Int) (f_there : Int) (f_size : Int) (w_letters : Int → Int) (w_size : Int) (w_wrong : Int) : Prop := wp_X1_isThere (fun (x4 : Int) => ((x4 = 0 → wp_X7_best_22 Q f_rows f_there f_size w_letters w_size w_wrong) ∧
  (¬ (x4 = 0) → wp_X6_firstWrong (fun (x14 : Int) => ((x14 = (-4) → wp_X1_size (fun (x29 : Int) => ((¬ x29 = 0 → wp_X6_choose (fun (x48 : Int) => wp_X7_best_51 Q f_rows f_there f_size w_letters w_size w_wrong x48) f_rows f_size w_letters w_size) ∧
  (x29 = 0 → wp_X7_best_51 Q f_rows f_there f_size w_letters w_size w_wrong (-4)))) f_size) ∧
  (¬ (x14 = (-4)) → wp_X7_best_22 Q f_rows f_there f_size w_letters w_size w_wrong))) w_wrong))) f_there
set_option maxHeartbeats 4000000 in
set_option maxRecDepth 100000 in
theorem c_X7_best (l : Launch) (D : va_G) (cI cJ : ClassId) (zt : Nat) (hX7 : Nat) (aX7_above : Nat) (aX7_below : Nat) (hX3 : Nat) (hX2 : Nat) (hX1 : Nat) (hX6 : Nat) (hX0 : Nat) (hX5 : Nat) (aX1_rows : Nat) (aX1_ones : Nat) (aX1_twos : Nat) (aX1_distances : Nat) (aX1_reached : Nat) (f_swaps : Int) (f_there : Int) (f_size : Int) (f_mostShares : Int) (f_source : Int) (f_looked : Int) (f_ends : Int) (aX6_letters : Nat) (w_size : Int) (w_wrong : Int) (f_rows : Int → Int) (w_letters : Int → Int) (Q : Int → Prop) (r_f_rows : rr64 f_rows) (r_f_there : r32 f_there) (r_f_size : r32 f_size) (r_w_letters : rr32 w_letters) (r_w_size : r32 w_size) (r_w_wrong : r32 w_wrong) (h : wp_X7_best Q f_rows f_there f_size w_letters w_size w_wrong) : Ct l D cI cJ zt yX7_best cX7_best 1 (some .int) 6 0 0 [.ref hX7] [(hX7, .inr (6, [.ref aX7_above, .ref aX7_below, .ref hX3, .ref hX2, .ref hX1, .ref hX6, .ref hX0, .ref hX5])), (hX1, .inr (1, [.ref aX1_rows, .ref aX1_ones, .ref aX1_twos, .ref aX1_distances, .ref aX1_reached, .int (i32 f_swaps), .int (i32 f_there), .int (i32 f_size), .int (i32 f_mostShares), .int (i32 f_source), .int (i32 f_looked), .int (i32 f_ends)])), (hX6, .inr (5, [.ref aX6_letters, .int (i32 w_size), .int (i32 w_wrong)])), (aX1_rows, aL cJ 2001 f_rows), (aX6_letters, aI cI 8 w_letters)] (po_X7_best cI cJ hX7 aX7_above aX7_below hX3 hX2 hX1 hX6 hX0 hX5 aX1_rows aX1_ones aX1_twos aX1_distances aX1_reached f_swaps f_there f_size f_mostShares f_source f_looked f_ends aX6_letters w_size w_wrong f_rows w_letters Q) := by
  refine ct_of (by decide +kernel) (Nat.le_of_ble_eq_true rfl) (fun X hl hDD hcI hcJ hzt hR hF hnm g => ?_)
  subst hl; subst hDD; subst hcI; subst hcJ; subst hzt
  show Wat X 0 0 0 [(0, .ref hX7)] [] [(hX7, .inr (6, [.ref aX7_above, .ref aX7_below, .ref hX3, .ref hX2, .ref hX1, .ref hX6, .ref hX0, .ref hX5])), (hX1, .inr (1, [.ref aX1_rows, .ref aX1_ones, .ref aX1_twos, .ref aX1_distances, .ref aX1_reached, .int (i32 f_swaps), .int (i32 f_there), .int (i32 f_size), .int (i32 f_mostShares), .int (i32 f_source), .int (i32 f_looked), .int (i32 f_ends)])), (hX6, .inr (5, [.ref aX6_letters, .int (i32 w_size), .int (i32 w_wrong)])), (aX1_rows, aL X.cJ 2001 f_rows), (aX6_letters, aI X.cI 8 w_letters)]
  replace g : Gd X cX7_best RX7 (some .int) 1 := g
  rw [wp_X7_best] at h
  refine q_aload_n g 0 0 rfl dX7_best_0 ?_
  refine q_get (C := RX7) (T := TX7) (N := 8) g 33 inX7 0 4 rfl rfl (by decide) wF_X7_33 rfl dX7_best_1 ?_
  refine q_callV (lev := 1) (mc := 0) (ms := 0) g 110 (c_X1_isThere X.l X.D X.cI X.cJ X.zt hX1 aX1_rows aX1_ones aX1_twos aX1_distances aX1_reached f_swaps f_there f_size f_mostShares f_source f_looked f_ends _ r_f_there h) (wr := [(hX7, .inr (6, [.ref aX7_above, .ref aX7_below, .ref hX3, .ref hX2, .ref hX1, .ref hX6, .ref hX0, .ref hX5])), (hX6, .inr (5, [.ref aX6_letters, .int (i32 w_size), .int (i32 w_wrong)])), (aX1_rows, aL X.cJ 2001 f_rows), (aX6_letters, aI X.cI 8 w_letters)]) [1] [0, 2, 3, 4] rfl rfl rfl (by decide) (by decide) (by decide) (ci := 1) rfl rfl rfl wM_X7_110 wI_X1_isThere wS_X1_isThere wZ_X1 wC_X1_isThere 0 rfl (by decide +kernel) (by rw [hR]; exact ⟨by show 1 + 1 ≤ 6; omega, by show 8 + (1 + 11) + 100 * 1 ≤ 100 * 6; omega⟩) (by rw [hR]; exact ⟨Nat.le_refl _, Nat.le_refl _⟩) (Nat.le_of_ble_eq_true rfl) rfl dX7_best_4 (fun rv w1 hq => ?_)
  obtain ⟨x4, rfl, rfl, rx4, h⟩ := hq
  refine q_ws (ws' := [(hX7, .inr (6, [.ref aX7_above, .ref aX7_below, .ref hX3, .ref hX2, .ref hX1, .ref hX6, .ref hX0, .ref hX5])), (hX1, .inr (1, [.ref aX1_rows, .ref aX1_ones, .ref aX1_twos, .ref aX1_distances, .ref aX1_reached, .int (i32 f_swaps), .int (i32 f_there), .int (i32 f_size), .int (i32 f_mostShares), .int (i32 f_source), .int (i32 f_looked), .int (i32 f_ends)])), (hX6, .inr (5, [.ref aX6_letters, .int (i32 w_size), .int (i32 w_wrong)])), (aX1_rows, aL X.cJ 2001 f_rows), (aX6_letters, aI X.cI 8 w_letters)]) [0, 4, 1, 2, 3] (by decide) rfl rfl ?_
  show Wat X 0 0 7 [(0, .ref hX7)] [.int (i32 x4)] [(hX7, .inr (6, [.ref aX7_above, .ref aX7_below, .ref hX3, .ref hX2, .ref hX1, .ref hX6, .ref hX0, .ref hX5])), (hX1, .inr (1, [.ref aX1_rows, .ref aX1_ones, .ref aX1_twos, .ref aX1_distances, .ref aX1_reached, .int (i32 f_swaps), .int (i32 f_there), .int (i32 f_size), .int (i32 f_mostShares), .int (i32 f_source), .int (i32 f_looked), .int (i32 f_ends)])), (hX6, .inr (5, [.ref aX6_letters, .int (i32 w_size), .int (i32 w_wrong)])), (aX1_rows, aL X.cJ 2001 f_rows), (aX6_letters, aI X.cI 8 w_letters)]
  refine q_if_eq g (15) 22 rx4 (by decide) dX7_best_7 (fun b7 => ?_) (fun b7 => ?_)
  · replace h := h.1 b7
    refine q_lv (lv' := []) [] rfl ?_
    exact s_X7_best_22 g hR hX7 aX7_above aX7_below hX3 hX2 hX1 hX6 hX0 hX5 aX1_rows aX1_ones aX1_twos aX1_distances aX1_reached f_swaps f_mostShares f_source f_looked f_ends aX6_letters f_rows f_there f_size w_letters w_size w_wrong r_f_rows r_f_there r_f_size r_w_letters r_w_size r_w_wrong Q hF h
  replace h := h.2 b7
  refine q_aload_n g 0 0 rfl dX7_best_10 ?_
  refine q_get (C := RX7) (T := TX7) (N := 8) g 40 inX7 0 5 rfl rfl (by decide) wF_X7_40 rfl dX7_best_11 ?_
  refine q_callV (lev := 1) (mc := 0) (ms := 0) g 135 (c_X6_firstWrong X.l X.D X.cI X.cJ X.zt hX6 aX6_letters w_size w_wrong _ r_w_wrong h) (wr := [(hX7, .inr (6, [.ref aX7_above, .ref aX7_below, .ref hX3, .ref hX2, .ref hX1, .ref hX6, .ref hX0, .ref hX5])), (hX1, .inr (1, [.ref aX1_rows, .ref aX1_ones, .ref aX1_twos, .ref aX1_distances, .ref aX1_reached, .int (i32 f_swaps), .int (i32 f_there), .int (i32 f_size), .int (i32 f_mostShares), .int (i32 f_source), .int (i32 f_looked), .int (i32 f_ends)])), (aX1_rows, aL X.cJ 2001 f_rows), (aX6_letters, aI X.cI 8 w_letters)]) [2] [0, 1, 3, 4] rfl rfl rfl (by decide) (by decide) (by decide) (ci := 5) rfl rfl rfl wM_X7_135 wI_X6_firstWrong wS_X6_firstWrong wZ_X6 wC_X6_firstWrong 0 rfl (by decide +kernel) (by rw [hR]; exact ⟨by show 1 + 1 ≤ 6; omega, by show 8 + (1 + 11) + 100 * 1 ≤ 100 * 6; omega⟩) (by rw [hR]; exact ⟨Nat.le_refl _, Nat.le_refl _⟩) (Nat.le_of_ble_eq_true rfl) rfl dX7_best_14 (fun rv w1 hq => ?_)
  obtain ⟨x14, rfl, rfl, rx14, h⟩ := hq
  refine q_ws (ws' := [(hX7, .inr (6, [.ref aX7_above, .ref aX7_below, .ref hX3, .ref hX2, .ref hX1, .ref hX6, .ref hX0, .ref hX5])), (hX1, .inr (1, [.ref aX1_rows, .ref aX1_ones, .ref aX1_twos, .ref aX1_distances, .ref aX1_reached, .int (i32 f_swaps), .int (i32 f_there), .int (i32 f_size), .int (i32 f_mostShares), .int (i32 f_source), .int (i32 f_looked), .int (i32 f_ends)])), (hX6, .inr (5, [.ref aX6_letters, .int (i32 w_size), .int (i32 w_wrong)])), (aX1_rows, aL X.cJ 2001 f_rows), (aX6_letters, aI X.cI 8 w_letters)]) [0, 1, 4, 2, 3] (by decide) rfl rfl ?_
  show Wat X 0 0 17 [(0, .ref hX7)] [.int (i32 x14)] [(hX7, .inr (6, [.ref aX7_above, .ref aX7_below, .ref hX3, .ref hX2, .ref hX1, .ref hX6, .ref hX0, .ref hX5])), (hX1, .inr (1, [.ref aX1_rows, .ref aX1_ones, .ref aX1_twos, .ref aX1_distances, .ref aX1_reached, .int (i32 f_swaps), .int (i32 f_there), .int (i32 f_size), .int (i32 f_mostShares), .int (i32 f_source), .int (i32 f_looked), .int (i32 f_ends)])), (hX6, .inr (5, [.ref aX6_letters, .int (i32 w_size), .int (i32 w_wrong)])), (aX1_rows, aL X.cJ 2001 f_rows), (aX6_letters, aI X.cI 8 w_letters)]
  refine q_bipush g (-4) (by decide) (by decide) dX7_best_17 ?_
  refine q_icmp_eq g (6) 25 rx14 (r32_lit _ (by decide)) (by decide) dX7_best_19 (fun b19 => ?_) (fun b19 => ?_)
  · replace h := h.1 b19
    refine q_aload_n g 0 0 rfl dX7_best_25 ?_
    refine q_get (C := RX7) (T := TX7) (N := 8) g 33 inX7 0 4 rfl rfl (by decide) wF_X7_33 rfl dX7_best_26 ?_
    refine q_callV (lev := 1) (mc := 0) (ms := 0) g 114 (c_X1_size X.l X.D X.cI X.cJ X.zt hX1 aX1_rows aX1_ones aX1_twos aX1_distances aX1_reached f_swaps f_there f_size f_mostShares f_source f_looked f_ends _ r_f_size h) (wr := [(hX7, .inr (6, [.ref aX7_above, .ref aX7_below, .ref hX3, .ref hX2, .ref hX1, .ref hX6, .ref hX0, .ref hX5])), (hX6, .inr (5, [.ref aX6_letters, .int (i32 w_size), .int (i32 w_wrong)])), (aX1_rows, aL X.cJ 2001 f_rows), (aX6_letters, aI X.cI 8 w_letters)]) [1] [0, 2, 3, 4] rfl rfl rfl (by decide) (by decide) (by decide) (ci := 1) rfl rfl rfl wM_X7_114 wI_X1_size wS_X1_size wZ_X1 wC_X1_size 0 rfl (by decide +kernel) (by rw [hR]; exact ⟨by show 1 + 1 ≤ 6; omega, by show 8 + (1 + 11) + 100 * 1 ≤ 100 * 6; omega⟩) (by rw [hR]; exact ⟨Nat.le_refl _, Nat.le_refl _⟩) (Nat.le_of_ble_eq_true rfl) rfl dX7_best_29 (fun rv w1 hq => ?_)
    obtain ⟨x29, rfl, rfl, rx29, h⟩ := hq
    refine q_ws (ws' := [(hX7, .inr (6, [.ref aX7_above, .ref aX7_below, .ref hX3, .ref hX2, .ref hX1, .ref hX6, .ref hX0, .ref hX5])), (hX1, .inr (1, [.ref aX1_rows, .ref aX1_ones, .ref aX1_twos, .ref aX1_distances, .ref aX1_reached, .int (i32 f_swaps), .int (i32 f_there), .int (i32 f_size), .int (i32 f_mostShares), .int (i32 f_source), .int (i32 f_looked), .int (i32 f_ends)])), (hX6, .inr (5, [.ref aX6_letters, .int (i32 w_size), .int (i32 w_wrong)])), (aX1_rows, aL X.cJ 2001 f_rows), (aX6_letters, aI X.cI 8 w_letters)]) [0, 4, 1, 2, 3] (by decide) rfl rfl ?_
    show Wat X 0 0 32 [(0, .ref hX7)] [.int (i32 x29)] [(hX7, .inr (6, [.ref aX7_above, .ref aX7_below, .ref hX3, .ref hX2, .ref hX1, .ref hX6, .ref hX0, .ref hX5])), (hX1, .inr (1, [.ref aX1_rows, .ref aX1_ones, .ref aX1_twos, .ref aX1_distances, .ref aX1_reached, .int (i32 f_swaps), .int (i32 f_there), .int (i32 f_size), .int (i32 f_mostShares), .int (i32 f_source), .int (i32 f_looked), .int (i32 f_ends)])), (hX6, .inr (5, [.ref aX6_letters, .int (i32 w_size), .int (i32 w_wrong)])), (aX1_rows, aL X.cJ 2001 f_rows), (aX6_letters, aI X.cI 8 w_letters)]
    refine q_if_ne g (8) 40 rx29 (by decide) dX7_best_32 (fun b32 => ?_) (fun b32 => ?_)
    · replace h := h.1 b32
      refine q_aload_n g 0 0 rfl dX7_best_40 ?_
      refine q_get (C := RX7) (T := TX7) (N := 8) g 40 inX7 0 5 rfl rfl (by decide) wF_X7_40 rfl dX7_best_41 ?_
      refine q_aload_n g 0 0 rfl dX7_best_44 ?_
      refine q_get (C := RX7) (T := TX7) (N := 8) g 33 inX7 0 4 rfl rfl (by decide) wF_X7_33 rfl dX7_best_45 ?_
      refine q_callV (lev := 5) (mc := 0) (ms := 0) g 138 (c_X6_choose X.l X.D X.cI X.cJ X.zt hX6 aX6_letters w_size w_wrong hX1 aX1_rows aX1_ones aX1_twos aX1_distances aX1_reached f_swaps f_there f_size f_mostShares f_source f_looked f_ends f_rows w_letters _ r_f_rows r_f_size r_w_letters r_w_size h) (wr := [(hX7, .inr (6, [.ref aX7_above, .ref aX7_below, .ref hX3, .ref hX2, .ref hX1, .ref hX6, .ref hX0, .ref hX5]))]) [2, 1, 3, 4] [0] rfl rfl rfl (by decide) (by decide) (by decide) (ci := 5) rfl rfl rfl wM_X7_138 wI_X6_choose wS_X6_choose wZ_X6 wC_X6_choose 1 rfl (by decide +kernel) (by rw [hR]; exact ⟨by show 5 + 1 ≤ 6; omega, by show 8 + (4 + 11) + 100 * 5 ≤ 100 * 6; omega⟩) (by rw [hR]; exact ⟨Nat.le_refl _, Nat.le_refl _⟩) (Nat.le_of_ble_eq_true rfl) rfl dX7_best_48 (fun rv w1 hq => ?_)
      obtain ⟨x48, rfl, rfl, rx48, h⟩ := hq
      refine q_ws (ws' := [(hX7, .inr (6, [.ref aX7_above, .ref aX7_below, .ref hX3, .ref hX2, .ref hX1, .ref hX6, .ref hX0, .ref hX5])), (hX1, .inr (1, [.ref aX1_rows, .ref aX1_ones, .ref aX1_twos, .ref aX1_distances, .ref aX1_reached, .int (i32 f_swaps), .int (i32 f_there), .int (i32 f_size), .int (i32 f_mostShares), .int (i32 f_source), .int (i32 f_looked), .int (i32 f_ends)])), (hX6, .inr (5, [.ref aX6_letters, .int (i32 w_size), .int (i32 w_wrong)])), (aX1_rows, aL X.cJ 2001 f_rows), (aX6_letters, aI X.cI 8 w_letters)]) [0, 2, 1, 3, 4] (by decide) rfl rfl ?_
      show Wat X 0 0 51 [(0, .ref hX7)] [.int (i32 x48)] [(hX7, .inr (6, [.ref aX7_above, .ref aX7_below, .ref hX3, .ref hX2, .ref hX1, .ref hX6, .ref hX0, .ref hX5])), (hX1, .inr (1, [.ref aX1_rows, .ref aX1_ones, .ref aX1_twos, .ref aX1_distances, .ref aX1_reached, .int (i32 f_swaps), .int (i32 f_there), .int (i32 f_size), .int (i32 f_mostShares), .int (i32 f_source), .int (i32 f_looked), .int (i32 f_ends)])), (hX6, .inr (5, [.ref aX6_letters, .int (i32 w_size), .int (i32 w_wrong)])), (aX1_rows, aL X.cJ 2001 f_rows), (aX6_letters, aI X.cI 8 w_letters)]
      refine q_lv (lv' := []) [] rfl ?_
      exact s_X7_best_51 g hR hX7 aX7_above aX7_below hX3 hX2 hX1 hX6 hX0 hX5 aX1_rows aX1_ones aX1_twos aX1_distances aX1_reached f_swaps f_mostShares f_source f_looked f_ends aX6_letters f_rows f_there f_size w_letters w_size w_wrong r_f_rows r_f_there r_f_size r_w_letters r_w_size r_w_wrong Q hF x48 rx48 h
    replace h := h.2 b32
    refine q_bipush g (-4) (by decide) (by decide) dX7_best_35 ?_
    refine q_goto g (14) 51 (by decide) dX7_best_37 ?_
    refine q_lv (lv' := []) [] rfl ?_
    exact s_X7_best_51 g hR hX7 aX7_above aX7_below hX3 hX2 hX1 hX6 hX0 hX5 aX1_rows aX1_ones aX1_twos aX1_distances aX1_reached f_swaps f_mostShares f_source f_looked f_ends aX6_letters f_rows f_there f_size w_letters w_size w_wrong r_f_rows r_f_there r_f_size r_w_letters r_w_size r_w_wrong Q hF (-4) (r32_lit _ (by decide)) h
  replace h := h.2 b19
  refine q_lv (lv' := []) [] rfl ?_
  exact s_X7_best_22 g hR hX7 aX7_above aX7_below hX3 hX2 hX1 hX6 hX0 hX5 aX1_rows aX1_ones aX1_twos aX1_distances aX1_reached f_swaps f_mostShares f_source f_looked f_ends aX6_letters f_rows f_there f_size w_letters w_size w_wrong r_f_rows r_f_there r_f_size r_w_letters r_w_size r_w_wrong Q hF h
theorem dX7_registersHeld_0 : decode cX7_registersHeld 0 = .ok (.iconst 0, 1) := by decide +kernel
theorem dX7_registersHeld_1 : decode cX7_registersHeld 1 = .ok (.istore_n 1, 1) := by decide +kernel
theorem dX7_registersHeld_2 : decode cX7_registersHeld 2 = .ok (.iconst 0, 1) := by decide +kernel
theorem dX7_registersHeld_3 : decode cX7_registersHeld 3 = .ok (.istore_n 2, 1) := by decide +kernel
theorem dX7_registersHeld_4 : decode cX7_registersHeld 4 = .ok (.iload_n 2, 1) := by decide +kernel
theorem dX7_registersHeld_5 : decode cX7_registersHeld 5 = .ok (.aload_n 0, 1) := by decide +kernel
theorem dX7_registersHeld_6 : decode cX7_registersHeld 6 = .ok (.getfield 9, 3) := by decide +kernel
theorem dX7_registersHeld_9 : decode cX7_registersHeld 9 = .ok (.arraylength, 1) := by decide +kernel
theorem dX7_registersHeld_10 : decode cX7_registersHeld 10 = .ok (.if_icmp .ge 21, 3) := by decide +kernel
theorem dX7_registersHeld_13 : decode cX7_registersHeld 13 = .ok (.aload_n 0, 1) := by decide +kernel
theorem dX7_registersHeld_14 : decode cX7_registersHeld 14 = .ok (.getfield 9, 3) := by decide +kernel
theorem dX7_registersHeld_17 : decode cX7_registersHeld 17 = .ok (.iload_n 2, 1) := by decide +kernel
theorem dX7_registersHeld_18 : decode cX7_registersHeld 18 = .ok (.iaload, 1) := by decide +kernel
theorem dX7_registersHeld_19 : decode cX7_registersHeld 19 = .ok (.ifCond .eq 6, 3) := by decide +kernel
theorem dX7_registersHeld_22 : decode cX7_registersHeld 22 = .ok (.iinc 1 1, 3) := by decide +kernel
theorem dX7_registersHeld_25 : decode cX7_registersHeld 25 = .ok (.iinc 2 1, 3) := by decide +kernel
theorem dX7_registersHeld_28 : decode cX7_registersHeld 28 = .ok (.goto (-24), 3) := by decide +kernel
theorem dX7_registersHeld_31 : decode cX7_registersHeld 31 = .ok (.iload_n 1, 1) := by decide +kernel
theorem dX7_registersHeld_32 : decode cX7_registersHeld 32 = .ok (.ireturn, 1) := by decide +kernel
abbrev po_X7_registersHeld (cI cJ : ClassId) (hX7 : Nat) (aX7_above : Nat) (aX7_below : Nat) (hX3 : Nat) (hX2 : Nat) (hX1 : Nat) (hX6 : Nat) (hX0 : Nat) (hX5 : Nat) (s_above : Int → Int) (Q : Int → Prop) : Option Value → va_W → Prop := fun rv w1 => ∃ (r0 : Int), rv = some (.int (i32 r0)) ∧ w1 = [(hX7, .inr (6, [.ref aX7_above, .ref aX7_below, .ref hX3, .ref hX2, .ref hX1, .ref hX6, .ref hX0, .ref hX5])), (aX7_above, aI cI 8 s_above)] ∧ r32 r0 ∧ Q r0
def wp_X7_registersHeld_25 (Q : Int → Prop) (s_above : Int → Int) (K_4 : Int → Int → Prop) (l1 : Int) (l2 : Int) : Prop := (r32 (l2 + 1) ∧ K_4 l1 (l2 + 1))
set_option maxHeartbeats 4000000 in
set_option maxRecDepth 100000 in
theorem s_X7_registersHeld_25 {X : Cx} (g : Gd X cX7_registersHeld RX7 (some .int) 3) (hR : X.R = rmL 1 0 0) (hX7 : Nat) (aX7_above : Nat) (aX7_below : Nat) (hX3 : Nat) (hX2 : Nat) (hX1 : Nat) (hX6 : Nat) (hX0 : Nat) (hX5 : Nat) (s_above : Int → Int) (r_s_above : rr32 s_above) (Q : Int → Prop) (hF : FQ X 0 0 (po_X7_registersHeld X.cI X.cJ hX7 aX7_above aX7_below hX3 hX2 hX1 hX6 hX0 hX5 s_above Q)) (K_4 : Int → Int → Prop) (hK_4 : ∀ (l1 : Int) (l2 : Int), r32 l1 → r32 l2 → K_4 l1 l2 → Wat X 0 0 4 [(0, .ref hX7), (1, .int (i32 l1)), (2, .int (i32 l2))] [] [(hX7, .inr (6, [.ref aX7_above, .ref aX7_below, .ref hX3, .ref hX2, .ref hX1, .ref hX6, .ref hX0, .ref hX5])), (aX7_above, aI X.cI 8 s_above)]) : ∀ (l1 : Int) (l2 : Int), r32 l1 → r32 l2 → wp_X7_registersHeld_25 Q s_above K_4 l1 l2 → Wat X 0 0 25 [(0, .ref hX7), (1, .int (i32 l1)), (2, .int (i32 l2))] [] [(hX7, .inr (6, [.ref aX7_above, .ref aX7_below, .ref hX3, .ref hX2, .ref hX1, .ref hX6, .ref hX0, .ref hX5])), (aX7_above, aI X.cI 8 s_above)] := by
  intro l1 l2 r_l1 r_l2 h
  rw [wp_X7_registersHeld_25] at h
  obtain ⟨c25, h⟩ := h
  refine q_iinc (lv' := [(2, .int (i32 (l2 + 1))), (0, .ref hX7), (1, .int (i32 l1))]) g 2 2 1 (by decide) rfl rfl dX7_registersHeld_25 ?_
  refine q_goto g (-24) 4 (by decide) dX7_registersHeld_28 ?_
  refine q_lv (lv' := [(0, .ref hX7), (1, .int (i32 l1)), (2, .int (i32 (l2 + 1)))]) [1, 2, 0] rfl ?_
  exact hK_4 l1 (l2 + 1) r_l1 c25 h
def wp_X7_registersHeld_4 (Q : Int → Prop) (s_above : Int → Int) : Nat → Int → Int → Prop
  | 0, _, _ => False
  | n + 1, l1, l2 => ((8 ≤ l2 → Q l1) ∧
  (¬ (8 ≤ l2) → (0 ≤ l2 ∧ l2 < 8 ∧ (((s_above l2) = 0 → wp_X7_registersHeld_25 Q s_above (wp_X7_registersHeld_4 Q s_above n) l1 l2) ∧
  (¬ ((s_above l2) = 0) → (r32 (l1 + 1) ∧ wp_X7_registersHeld_25 Q s_above (wp_X7_registersHeld_4 Q s_above n) (l1 + 1) l2))))))
set_option maxHeartbeats 4000000 in
set_option maxRecDepth 100000 in
theorem s_X7_registersHeld_4 {X : Cx} (g : Gd X cX7_registersHeld RX7 (some .int) 3) (hR : X.R = rmL 1 0 0) (hX7 : Nat) (aX7_above : Nat) (aX7_below : Nat) (hX3 : Nat) (hX2 : Nat) (hX1 : Nat) (hX6 : Nat) (hX0 : Nat) (hX5 : Nat) (s_above : Int → Int) (r_s_above : rr32 s_above) (Q : Int → Prop) (hF : FQ X 0 0 (po_X7_registersHeld X.cI X.cJ hX7 aX7_above aX7_below hX3 hX2 hX1 hX6 hX0 hX5 s_above Q)) : ∀ (n : Nat) (l1 : Int) (l2 : Int), r32 l1 → r32 l2 → wp_X7_registersHeld_4 Q s_above n l1 l2 → Wat X 0 0 4 [(0, .ref hX7), (1, .int (i32 l1)), (2, .int (i32 l2))] [] [(hX7, .inr (6, [.ref aX7_above, .ref aX7_below, .ref hX3, .ref hX2, .ref hX1, .ref hX6, .ref hX0, .ref hX5])), (aX7_above, aI X.cI 8 s_above)] := by
  intro n
  induction n with
  | zero => intro l1 l2 r_l1 r_l2 h; exact False.elim h
  | succ n ih =>
    intro l1 l2 r_l1 r_l2 h
    rw [wp_X7_registersHeld_4] at h
    refine q_iload_n g 2 2 rfl dX7_registersHeld_4 ?_
    refine q_aload_n g 0 0 rfl dX7_registersHeld_5 ?_
    refine q_get (C := RX7) (T := TX7) (N := 8) g 9 inX7 0 0 rfl rfl (by decide) wF_X7_9 rfl dX7_registersHeld_6 ?_
    refine q_alenI g 1 8 rfl rfl dX7_registersHeld_9 ?_
    refine q_icmp_ge g (21) 31 r_l2 (r32_lit _ (by decide)) (by decide) dX7_registersHeld_10 (fun b10 => ?_) (fun b10 => ?_)
    · replace h := h.1 b10
      refine q_iload_n g 1 1 rfl dX7_registersHeld_31 ?_
      exact q_iret g hF ⟨l1, rfl, rfl, r_l1, h⟩ dX7_registersHeld_32
    replace h := h.2 b10
    refine q_aload_n g 0 0 rfl dX7_registersHeld_13 ?_
    refine q_get (C := RX7) (T := TX7) (N := 8) g 9 inX7 0 0 rfl rfl (by decide) wF_X7_9 rfl dX7_registersHeld_14 ?_
    refine q_iload_n g 2 2 rfl dX7_registersHeld_17 ?_
    obtain ⟨c18, h⟩ := h
    obtain ⟨e18, h⟩ := h
    refine q_iald g 1 rfl c18 e18 (by decide) dX7_registersHeld_18 ?_
    refine q_if_eq g (6) 25 (r_s_above _) (by decide) dX7_registersHeld_19 (fun b19 => ?_) (fun b19 => ?_)
    · replace h := h.1 b19
      exact s_X7_registersHeld_25 g hR hX7 aX7_above aX7_below hX3 hX2 hX1 hX6 hX0 hX5 s_above r_s_above Q hF (wp_X7_registersHeld_4 Q s_above n) (fun v0 v1 w0 w1 hh => ih v0 v1 w0 w1 hh) l1 l2 r_l1 r_l2 h
    replace h := h.2 b19
    obtain ⟨c22, h⟩ := h
    refine q_iinc (lv' := [(1, .int (i32 (l1 + 1))), (0, .ref hX7), (2, .int (i32 l2))]) g 1 1 1 (by decide) rfl rfl dX7_registersHeld_22 ?_
    refine q_lv (lv' := [(0, .ref hX7), (1, .int (i32 (l1 + 1))), (2, .int (i32 l2))]) [1, 0, 2] rfl ?_
    exact s_X7_registersHeld_25 g hR hX7 aX7_above aX7_below hX3 hX2 hX1 hX6 hX0 hX5 s_above r_s_above Q hF (wp_X7_registersHeld_4 Q s_above n) (fun v0 v1 w0 w1 hh => ih v0 v1 w0 w1 hh) (l1 + 1) l2 c22 r_l2 h
def wp_X7_registersHeld (Q : Int → Prop) (s_above : Int → Int) : Prop := (∃ n0 : Nat, wp_X7_registersHeld_4 Q s_above n0 0 0)
set_option maxHeartbeats 4000000 in
set_option maxRecDepth 100000 in
theorem c_X7_registersHeld (l : Launch) (D : va_G) (cI cJ : ClassId) (zt : Nat) (hX7 : Nat) (aX7_above : Nat) (aX7_below : Nat) (hX3 : Nat) (hX2 : Nat) (hX1 : Nat) (hX6 : Nat) (hX0 : Nat) (hX5 : Nat) (s_above : Int → Int) (Q : Int → Prop) (r_s_above : rr32 s_above) (h : wp_X7_registersHeld Q s_above) : Ct l D cI cJ zt yX7_registersHeld cX7_registersHeld 3 (some .int) 1 0 0 [.ref hX7] [(hX7, .inr (6, [.ref aX7_above, .ref aX7_below, .ref hX3, .ref hX2, .ref hX1, .ref hX6, .ref hX0, .ref hX5])), (aX7_above, aI cI 8 s_above)] (po_X7_registersHeld cI cJ hX7 aX7_above aX7_below hX3 hX2 hX1 hX6 hX0 hX5 s_above Q) := by
  refine ct_of (by decide +kernel) (Nat.le_of_ble_eq_true rfl) (fun X hl hDD hcI hcJ hzt hR hF hnm g => ?_)
  subst hl; subst hDD; subst hcI; subst hcJ; subst hzt
  show Wat X 0 0 0 [(0, .ref hX7)] [] [(hX7, .inr (6, [.ref aX7_above, .ref aX7_below, .ref hX3, .ref hX2, .ref hX1, .ref hX6, .ref hX0, .ref hX5])), (aX7_above, aI X.cI 8 s_above)]
  replace g : Gd X cX7_registersHeld RX7 (some .int) 3 := g
  rw [wp_X7_registersHeld] at h
  refine q_iconst g (0) dX7_registersHeld_0 ?_
  refine q_istore_n (lv' := [(1, .int (i32 0)), (0, .ref hX7)]) g 1 1 rfl (by decide) rfl dX7_registersHeld_1 ?_
  refine q_iconst g (0) dX7_registersHeld_2 ?_
  refine q_istore_n (lv' := [(2, .int (i32 0)), (1, .int (i32 0)), (0, .ref hX7)]) g 2 2 rfl (by decide) rfl dX7_registersHeld_3 ?_
  refine q_lv (lv' := [(0, .ref hX7), (1, .int (i32 0)), (2, .int (i32 0))]) [2, 1, 0] rfl ?_
  obtain ⟨n0, h⟩ := h
  exact s_X7_registersHeld_4 g hR hX7 aX7_above aX7_below hX3 hX2 hX1 hX6 hX0 hX5 s_above r_s_above Q hF n0 0 0 (r32_lit _ (by decide)) (r32_lit _ (by decide)) h
theorem dX7_count_0 : decode cX7_count 0 = .ok (.iload_n 1, 1) := by decide +kernel
theorem dX7_count_1 : decode cX7_count 1 = .ok (.tableswitch 60 0 3 #[31, 36, 44, 52], 31) := by decide +kernel
theorem dX7_count_32 : decode cX7_count 32 = .ok (.aload_n 0, 1) := by decide +kernel
theorem dX7_count_33 : decode cX7_count 33 = .ok (.invokevirtual 190, 3) := by decide +kernel
theorem dX7_count_36 : decode cX7_count 36 = .ok (.ireturn, 1) := by decide +kernel
theorem dX7_count_37 : decode cX7_count 37 = .ok (.aload_n 0, 1) := by decide +kernel
theorem dX7_count_38 : decode cX7_count 38 = .ok (.getfield 40, 3) := by decide +kernel
theorem dX7_count_41 : decode cX7_count 41 = .ok (.invokevirtual 193, 3) := by decide +kernel
theorem dX7_count_44 : decode cX7_count 44 = .ok (.ireturn, 1) := by decide +kernel
theorem dX7_count_45 : decode cX7_count 45 = .ok (.aload_n 0, 1) := by decide +kernel
theorem dX7_count_46 : decode cX7_count 46 = .ok (.getfield 33, 3) := by decide +kernel
theorem dX7_count_49 : decode cX7_count 49 = .ok (.invokevirtual 114, 3) := by decide +kernel
theorem dX7_count_52 : decode cX7_count 52 = .ok (.ireturn, 1) := by decide +kernel
theorem dX7_count_53 : decode cX7_count 53 = .ok (.aload_n 0, 1) := by decide +kernel
theorem dX7_count_54 : decode cX7_count 54 = .ok (.getfield 33, 3) := by decide +kernel
theorem dX7_count_57 : decode cX7_count 57 = .ok (.invokevirtual 194, 3) := by decide +kernel
theorem dX7_count_60 : decode cX7_count 60 = .ok (.ireturn, 1) := by decide +kernel
theorem dX7_count_61 : decode cX7_count 61 = .ok (.iconst (-1), 1) := by decide +kernel
theorem dX7_count_62 : decode cX7_count 62 = .ok (.ireturn, 1) := by decide +kernel
abbrev po_X7_count (cI cJ : ClassId) (hX7 : Nat) (aX7_above : Nat) (aX7_below : Nat) (hX3 : Nat) (hX2 : Nat) (hX1 : Nat) (hX6 : Nat) (hX0 : Nat) (hX5 : Nat) (aX1_rows : Nat) (aX1_ones : Nat) (aX1_twos : Nat) (aX1_distances : Nat) (aX1_reached : Nat) (f_swaps : Int) (f_there : Int) (f_size : Int) (f_mostShares : Int) (f_source : Int) (f_looked : Int) (f_ends : Int) (aX6_letters : Nat) (w_size : Int) (w_wrong : Int) (s_above : Int → Int) (f_rows : Int → Int) (Q : Int → Prop) : Option Value → va_W → Prop := fun rv w1 => ∃ (r0 : Int), rv = some (.int (i32 r0)) ∧ w1 = [(hX7, .inr (6, [.ref aX7_above, .ref aX7_below, .ref hX3, .ref hX2, .ref hX1, .ref hX6, .ref hX0, .ref hX5])), (hX1, .inr (1, [.ref aX1_rows, .ref aX1_ones, .ref aX1_twos, .ref aX1_distances, .ref aX1_reached, .int (i32 f_swaps), .int (i32 f_there), .int (i32 f_size), .int (i32 f_mostShares), .int (i32 f_source), .int (i32 f_looked), .int (i32 f_ends)])), (hX6, .inr (5, [.ref aX6_letters, .int (i32 w_size), .int (i32 w_wrong)])), (aX7_above, aI cI 8 s_above), (aX1_rows, aL cJ 2001 f_rows)] ∧ r32 r0 ∧ Q r0
def wp_X7_count (Q : Int → Prop) (s_above : Int → Int) (f_rows : Int → Int) (f_size : Int) (w_size : Int) (l1 : Int) : Prop := ((l1 < 0 ∨ 3 < l1 → Q (-1)) ∧
  (l1 = 0 → wp_X7_registersHeld (fun (x33 : Int) => Q x33) s_above) ∧
  (l1 = 1 → wp_X6_size (fun (x41 : Int) => Q x41) w_size) ∧
  (l1 = 2 → wp_X1_size (fun (x49 : Int) => Q x49) f_size) ∧
  (l1 = 3 → wp_X1_countShares (fun (x57 : Int) => Q x57) f_rows f_size))
set_option maxHeartbeats 4000000 in
set_option maxRecDepth 100000 in
theorem c_X7_count (l : Launch) (D : va_G) (cI cJ : ClassId) (zt : Nat) (hX7 : Nat) (aX7_above : Nat) (aX7_below : Nat) (hX3 : Nat) (hX2 : Nat) (hX1 : Nat) (hX6 : Nat) (hX0 : Nat) (hX5 : Nat) (aX1_rows : Nat) (aX1_ones : Nat) (aX1_twos : Nat) (aX1_distances : Nat) (aX1_reached : Nat) (f_swaps : Int) (f_there : Int) (f_size : Int) (f_mostShares : Int) (f_source : Int) (f_looked : Int) (f_ends : Int) (aX6_letters : Nat) (w_size : Int) (w_wrong : Int) (s_above : Int → Int) (f_rows : Int → Int) (l1 : Int) (Q : Int → Prop) (r_s_above : rr32 s_above) (r_f_rows : rr64 f_rows) (r_f_size : r32 f_size) (r_w_size : r32 w_size) (r_l1 : r32 l1) (h : wp_X7_count Q s_above f_rows f_size w_size l1) : Ct l D cI cJ zt yX7_count cX7_count 2 (some .int) 3 0 0 [.ref hX7, .int (i32 l1)] [(hX7, .inr (6, [.ref aX7_above, .ref aX7_below, .ref hX3, .ref hX2, .ref hX1, .ref hX6, .ref hX0, .ref hX5])), (hX1, .inr (1, [.ref aX1_rows, .ref aX1_ones, .ref aX1_twos, .ref aX1_distances, .ref aX1_reached, .int (i32 f_swaps), .int (i32 f_there), .int (i32 f_size), .int (i32 f_mostShares), .int (i32 f_source), .int (i32 f_looked), .int (i32 f_ends)])), (hX6, .inr (5, [.ref aX6_letters, .int (i32 w_size), .int (i32 w_wrong)])), (aX7_above, aI cI 8 s_above), (aX1_rows, aL cJ 2001 f_rows)] (po_X7_count cI cJ hX7 aX7_above aX7_below hX3 hX2 hX1 hX6 hX0 hX5 aX1_rows aX1_ones aX1_twos aX1_distances aX1_reached f_swaps f_there f_size f_mostShares f_source f_looked f_ends aX6_letters w_size w_wrong s_above f_rows Q) := by
  refine ct_of (by decide +kernel) (Nat.le_of_ble_eq_true rfl) (fun X hl hDD hcI hcJ hzt hR hF hnm g => ?_)
  subst hl; subst hDD; subst hcI; subst hcJ; subst hzt
  show Wat X 0 0 0 [(0, .ref hX7), (1, .int (i32 l1))] [] [(hX7, .inr (6, [.ref aX7_above, .ref aX7_below, .ref hX3, .ref hX2, .ref hX1, .ref hX6, .ref hX0, .ref hX5])), (hX1, .inr (1, [.ref aX1_rows, .ref aX1_ones, .ref aX1_twos, .ref aX1_distances, .ref aX1_reached, .int (i32 f_swaps), .int (i32 f_there), .int (i32 f_size), .int (i32 f_mostShares), .int (i32 f_source), .int (i32 f_looked), .int (i32 f_ends)])), (hX6, .inr (5, [.ref aX6_letters, .int (i32 w_size), .int (i32 w_wrong)])), (aX7_above, aI X.cI 8 s_above), (aX1_rows, aL X.cJ 2001 f_rows)]
  replace g : Gd X cX7_count RX7 (some .int) 2 := g
  rw [wp_X7_count] at h
  refine q_iload_n g 1 1 rfl dX7_count_0 ?_
  by_cases bo1 : l1 < 0 ∨ 3 < l1
  · replace h := h.1 bo1
    refine q_tabOut g 61 r_l1 bo1 (by decide) dX7_count_1 ?_
    refine q_iconst g (-1) dX7_count_61 ?_
    exact q_iret g hF ⟨(-1), rfl, rfl, (r32_lit _ (by decide)), h⟩ dX7_count_62
  replace h := h.2
  have bs1 : l1 = 0 ∨ l1 = 1 ∨ l1 = 2 ∨ l1 = 3 := by omega
  rcases bs1 with bs1 | bs1
  · replace h := h.1 bs1
    refine q_tabIn g 32 0 r_l1 bs1 (by decide) (by decide) rfl (by decide) dX7_count_1 ?_
    refine q_aload_n g 0 0 rfl dX7_count_32 ?_
    refine q_callV (lev := 1) (mc := 0) (ms := 0) g 190 (c_X7_registersHeld X.l X.D X.cI X.cJ X.zt hX7 aX7_above aX7_below hX3 hX2 hX1 hX6 hX0 hX5 s_above _ r_s_above h) (wr := [(hX1, .inr (1, [.ref aX1_rows, .ref aX1_ones, .ref aX1_twos, .ref aX1_distances, .ref aX1_reached, .int (i32 f_swaps), .int (i32 f_there), .int (i32 f_size), .int (i32 f_mostShares), .int (i32 f_source), .int (i32 f_looked), .int (i32 f_ends)])), (hX6, .inr (5, [.ref aX6_letters, .int (i32 w_size), .int (i32 w_wrong)])), (aX1_rows, aL X.cJ 2001 f_rows)]) [0, 3] [1, 2, 4] rfl rfl rfl (by decide) (by decide) (by decide) (ci := 6) rfl rfl rfl wM_X7_190 wI_X7_registersHeld wS_X7_registersHeld wZ_X7 wC_X7_registersHeld 0 rfl (by decide +kernel) (by rw [hR]; exact ⟨by show 1 + 1 ≤ 3; omega, by show 8 + (3 + 11) + 100 * 1 ≤ 100 * 3; omega⟩) (by rw [hR]; exact ⟨Nat.le_refl _, Nat.le_refl _⟩) (Nat.le_of_ble_eq_true rfl) rfl dX7_count_33 (fun rv w1 hq => ?_)
    obtain ⟨x33, rfl, rfl, rx33, h⟩ := hq
    refine q_ws (ws' := [(hX7, .inr (6, [.ref aX7_above, .ref aX7_below, .ref hX3, .ref hX2, .ref hX1, .ref hX6, .ref hX0, .ref hX5])), (hX1, .inr (1, [.ref aX1_rows, .ref aX1_ones, .ref aX1_twos, .ref aX1_distances, .ref aX1_reached, .int (i32 f_swaps), .int (i32 f_there), .int (i32 f_size), .int (i32 f_mostShares), .int (i32 f_source), .int (i32 f_looked), .int (i32 f_ends)])), (hX6, .inr (5, [.ref aX6_letters, .int (i32 w_size), .int (i32 w_wrong)])), (aX7_above, aI X.cI 8 s_above), (aX1_rows, aL X.cJ 2001 f_rows)]) [3, 0, 1, 4, 2] (by decide) rfl rfl ?_
    show Wat X 0 0 36 [(0, .ref hX7), (1, .int (i32 l1))] [.int (i32 x33)] [(hX7, .inr (6, [.ref aX7_above, .ref aX7_below, .ref hX3, .ref hX2, .ref hX1, .ref hX6, .ref hX0, .ref hX5])), (hX1, .inr (1, [.ref aX1_rows, .ref aX1_ones, .ref aX1_twos, .ref aX1_distances, .ref aX1_reached, .int (i32 f_swaps), .int (i32 f_there), .int (i32 f_size), .int (i32 f_mostShares), .int (i32 f_source), .int (i32 f_looked), .int (i32 f_ends)])), (hX6, .inr (5, [.ref aX6_letters, .int (i32 w_size), .int (i32 w_wrong)])), (aX7_above, aI X.cI 8 s_above), (aX1_rows, aL X.cJ 2001 f_rows)]
    exact q_iret g hF ⟨x33, rfl, rfl, rx33, h⟩ dX7_count_36
  replace h := h.2
  rcases bs1 with bs1 | bs1
  · replace h := h.1 bs1
    refine q_tabIn g 37 1 r_l1 bs1 (by decide) (by decide) rfl (by decide) dX7_count_1 ?_
    refine q_aload_n g 0 0 rfl dX7_count_37 ?_
    refine q_get (C := RX7) (T := TX7) (N := 8) g 40 inX7 0 5 rfl rfl (by decide) wF_X7_40 rfl dX7_count_38 ?_
    refine q_callV (lev := 1) (mc := 0) (ms := 0) g 193 (c_X6_size X.l X.D X.cI X.cJ X.zt hX6 aX6_letters w_size w_wrong _ r_w_size h) (wr := [(hX7, .inr (6, [.ref aX7_above, .ref aX7_below, .ref hX3, .ref hX2, .ref hX1, .ref hX6, .ref hX0, .ref hX5])), (hX1, .inr (1, [.ref aX1_rows, .ref aX1_ones, .ref aX1_twos, .ref aX1_distances, .ref aX1_reached, .int (i32 f_swaps), .int (i32 f_there), .int (i32 f_size), .int (i32 f_mostShares), .int (i32 f_source), .int (i32 f_looked), .int (i32 f_ends)])), (aX7_above, aI X.cI 8 s_above), (aX1_rows, aL X.cJ 2001 f_rows)]) [2] [0, 1, 3, 4] rfl rfl rfl (by decide) (by decide) (by decide) (ci := 5) rfl rfl rfl wM_X7_193 wI_X6_size wS_X6_size wZ_X6 wC_X6_size 0 rfl (by decide +kernel) (by rw [hR]; exact ⟨by show 1 + 1 ≤ 3; omega, by show 8 + (1 + 11) + 100 * 1 ≤ 100 * 3; omega⟩) (by rw [hR]; exact ⟨Nat.le_refl _, Nat.le_refl _⟩) (Nat.le_of_ble_eq_true rfl) rfl dX7_count_41 (fun rv w1 hq => ?_)
    obtain ⟨x41, rfl, rfl, rx41, h⟩ := hq
    refine q_ws (ws' := [(hX7, .inr (6, [.ref aX7_above, .ref aX7_below, .ref hX3, .ref hX2, .ref hX1, .ref hX6, .ref hX0, .ref hX5])), (hX1, .inr (1, [.ref aX1_rows, .ref aX1_ones, .ref aX1_twos, .ref aX1_distances, .ref aX1_reached, .int (i32 f_swaps), .int (i32 f_there), .int (i32 f_size), .int (i32 f_mostShares), .int (i32 f_source), .int (i32 f_looked), .int (i32 f_ends)])), (hX6, .inr (5, [.ref aX6_letters, .int (i32 w_size), .int (i32 w_wrong)])), (aX7_above, aI X.cI 8 s_above), (aX1_rows, aL X.cJ 2001 f_rows)]) [0, 1, 4, 2, 3] (by decide) rfl rfl ?_
    show Wat X 0 0 44 [(0, .ref hX7), (1, .int (i32 l1))] [.int (i32 x41)] [(hX7, .inr (6, [.ref aX7_above, .ref aX7_below, .ref hX3, .ref hX2, .ref hX1, .ref hX6, .ref hX0, .ref hX5])), (hX1, .inr (1, [.ref aX1_rows, .ref aX1_ones, .ref aX1_twos, .ref aX1_distances, .ref aX1_reached, .int (i32 f_swaps), .int (i32 f_there), .int (i32 f_size), .int (i32 f_mostShares), .int (i32 f_source), .int (i32 f_looked), .int (i32 f_ends)])), (hX6, .inr (5, [.ref aX6_letters, .int (i32 w_size), .int (i32 w_wrong)])), (aX7_above, aI X.cI 8 s_above), (aX1_rows, aL X.cJ 2001 f_rows)]
    exact q_iret g hF ⟨x41, rfl, rfl, rx41, h⟩ dX7_count_44
  replace h := h.2
  rcases bs1 with bs1 | bs1
  · replace h := h.1 bs1
    refine q_tabIn g 45 2 r_l1 bs1 (by decide) (by decide) rfl (by decide) dX7_count_1 ?_
    refine q_aload_n g 0 0 rfl dX7_count_45 ?_
    refine q_get (C := RX7) (T := TX7) (N := 8) g 33 inX7 0 4 rfl rfl (by decide) wF_X7_33 rfl dX7_count_46 ?_
    refine q_callV (lev := 1) (mc := 0) (ms := 0) g 114 (c_X1_size X.l X.D X.cI X.cJ X.zt hX1 aX1_rows aX1_ones aX1_twos aX1_distances aX1_reached f_swaps f_there f_size f_mostShares f_source f_looked f_ends _ r_f_size h) (wr := [(hX7, .inr (6, [.ref aX7_above, .ref aX7_below, .ref hX3, .ref hX2, .ref hX1, .ref hX6, .ref hX0, .ref hX5])), (hX6, .inr (5, [.ref aX6_letters, .int (i32 w_size), .int (i32 w_wrong)])), (aX7_above, aI X.cI 8 s_above), (aX1_rows, aL X.cJ 2001 f_rows)]) [1] [0, 2, 3, 4] rfl rfl rfl (by decide) (by decide) (by decide) (ci := 1) rfl rfl rfl wM_X7_114 wI_X1_size wS_X1_size wZ_X1 wC_X1_size 0 rfl (by decide +kernel) (by rw [hR]; exact ⟨by show 1 + 1 ≤ 3; omega, by show 8 + (1 + 11) + 100 * 1 ≤ 100 * 3; omega⟩) (by rw [hR]; exact ⟨Nat.le_refl _, Nat.le_refl _⟩) (Nat.le_of_ble_eq_true rfl) rfl dX7_count_49 (fun rv w1 hq => ?_)
    obtain ⟨x49, rfl, rfl, rx49, h⟩ := hq
    refine q_ws (ws' := [(hX7, .inr (6, [.ref aX7_above, .ref aX7_below, .ref hX3, .ref hX2, .ref hX1, .ref hX6, .ref hX0, .ref hX5])), (hX1, .inr (1, [.ref aX1_rows, .ref aX1_ones, .ref aX1_twos, .ref aX1_distances, .ref aX1_reached, .int (i32 f_swaps), .int (i32 f_there), .int (i32 f_size), .int (i32 f_mostShares), .int (i32 f_source), .int (i32 f_looked), .int (i32 f_ends)])), (hX6, .inr (5, [.ref aX6_letters, .int (i32 w_size), .int (i32 w_wrong)])), (aX7_above, aI X.cI 8 s_above), (aX1_rows, aL X.cJ 2001 f_rows)]) [0, 4, 1, 2, 3] (by decide) rfl rfl ?_
    show Wat X 0 0 52 [(0, .ref hX7), (1, .int (i32 l1))] [.int (i32 x49)] [(hX7, .inr (6, [.ref aX7_above, .ref aX7_below, .ref hX3, .ref hX2, .ref hX1, .ref hX6, .ref hX0, .ref hX5])), (hX1, .inr (1, [.ref aX1_rows, .ref aX1_ones, .ref aX1_twos, .ref aX1_distances, .ref aX1_reached, .int (i32 f_swaps), .int (i32 f_there), .int (i32 f_size), .int (i32 f_mostShares), .int (i32 f_source), .int (i32 f_looked), .int (i32 f_ends)])), (hX6, .inr (5, [.ref aX6_letters, .int (i32 w_size), .int (i32 w_wrong)])), (aX7_above, aI X.cI 8 s_above), (aX1_rows, aL X.cJ 2001 f_rows)]
    exact q_iret g hF ⟨x49, rfl, rfl, rx49, h⟩ dX7_count_52
  replace h := h.2
  replace h := h bs1
  refine q_tabIn g 53 3 r_l1 bs1 (by decide) (by decide) rfl (by decide) dX7_count_1 ?_
  refine q_aload_n g 0 0 rfl dX7_count_53 ?_
  refine q_get (C := RX7) (T := TX7) (N := 8) g 33 inX7 0 4 rfl rfl (by decide) wF_X7_33 rfl dX7_count_54 ?_
  refine q_callV (lev := 2) (mc := 0) (ms := 0) g 194 (c_X1_countShares X.l X.D X.cI X.cJ X.zt hX1 aX1_rows aX1_ones aX1_twos aX1_distances aX1_reached f_swaps f_there f_size f_mostShares f_source f_looked f_ends f_rows _ r_f_rows r_f_size h) (wr := [(hX7, .inr (6, [.ref aX7_above, .ref aX7_below, .ref hX3, .ref hX2, .ref hX1, .ref hX6, .ref hX0, .ref hX5])), (hX6, .inr (5, [.ref aX6_letters, .int (i32 w_size), .int (i32 w_wrong)])), (aX7_above, aI X.cI 8 s_above)]) [1, 4] [0, 2, 3] rfl rfl rfl (by decide) (by decide) (by decide) (ci := 1) rfl rfl rfl wM_X7_194 wI_X1_countShares wS_X1_countShares wZ_X1 wC_X1_countShares 0 rfl (by decide +kernel) (by rw [hR]; exact ⟨by show 2 + 1 ≤ 3; omega, by show 8 + (3 + 11) + 100 * 2 ≤ 100 * 3; omega⟩) (by rw [hR]; exact ⟨Nat.le_refl _, Nat.le_refl _⟩) (Nat.le_of_ble_eq_true rfl) rfl dX7_count_57 (fun rv w1 hq => ?_)
  obtain ⟨x57, rfl, rfl, rx57, h⟩ := hq
  refine q_ws (ws' := [(hX7, .inr (6, [.ref aX7_above, .ref aX7_below, .ref hX3, .ref hX2, .ref hX1, .ref hX6, .ref hX0, .ref hX5])), (hX1, .inr (1, [.ref aX1_rows, .ref aX1_ones, .ref aX1_twos, .ref aX1_distances, .ref aX1_reached, .int (i32 f_swaps), .int (i32 f_there), .int (i32 f_size), .int (i32 f_mostShares), .int (i32 f_source), .int (i32 f_looked), .int (i32 f_ends)])), (hX6, .inr (5, [.ref aX6_letters, .int (i32 w_size), .int (i32 w_wrong)])), (aX7_above, aI X.cI 8 s_above), (aX1_rows, aL X.cJ 2001 f_rows)]) [0, 3, 1, 2, 4] (by decide) rfl rfl ?_
  show Wat X 0 0 60 [(0, .ref hX7), (1, .int (i32 l1))] [.int (i32 x57)] [(hX7, .inr (6, [.ref aX7_above, .ref aX7_below, .ref hX3, .ref hX2, .ref hX1, .ref hX6, .ref hX0, .ref hX5])), (hX1, .inr (1, [.ref aX1_rows, .ref aX1_ones, .ref aX1_twos, .ref aX1_distances, .ref aX1_reached, .int (i32 f_swaps), .int (i32 f_there), .int (i32 f_size), .int (i32 f_mostShares), .int (i32 f_source), .int (i32 f_looked), .int (i32 f_ends)])), (hX6, .inr (5, [.ref aX6_letters, .int (i32 w_size), .int (i32 w_wrong)])), (aX7_above, aI X.cI 8 s_above), (aX1_rows, aL X.cJ 2001 f_rows)]
  exact q_iret g hF ⟨x57, rfl, rfl, rx57, h⟩ dX7_count_60
theorem dX7_cuts_0 : decode cX7_cuts 0 = .ok (.iload_n 1, 1) := by decide +kernel
theorem dX7_cuts_1 : decode cX7_cuts 1 = .ok (.ifCond .lt 7, 3) := by decide +kernel
theorem dX7_cuts_4 : decode cX7_cuts 4 = .ok (.iload_n 2, 1) := by decide +kernel
theorem dX7_cuts_5 : decode cX7_cuts 5 = .ok (.ifCond .ge 5, 3) := by decide +kernel
theorem dX7_cuts_8 : decode cX7_cuts 8 = .ok (.iconst (-1), 1) := by decide +kernel
theorem dX7_cuts_9 : decode cX7_cuts 9 = .ok (.ireturn, 1) := by decide +kernel
theorem dX7_cuts_10 : decode cX7_cuts 10 = .ok (.aload_n 0, 1) := by decide +kernel
theorem dX7_cuts_11 : decode cX7_cuts 11 = .ok (.getfield 33, 3) := by decide +kernel
theorem dX7_cuts_14 : decode cX7_cuts 14 = .ok (.invokevirtual 110, 3) := by decide +kernel
theorem dX7_cuts_17 : decode cX7_cuts 17 = .ok (.ifCond .eq 25, 3) := by decide +kernel
theorem dX7_cuts_20 : decode cX7_cuts 20 = .ok (.iload_n 1, 1) := by decide +kernel
theorem dX7_cuts_21 : decode cX7_cuts 21 = .ok (.aload_n 0, 1) := by decide +kernel
theorem dX7_cuts_22 : decode cX7_cuts 22 = .ok (.getfield 33, 3) := by decide +kernel
theorem dX7_cuts_25 : decode cX7_cuts 25 = .ok (.invokevirtual 114, 3) := by decide +kernel
theorem dX7_cuts_28 : decode cX7_cuts 28 = .ok (.if_icmp .ge 14, 3) := by decide +kernel
theorem dX7_cuts_31 : decode cX7_cuts 31 = .ok (.iload_n 2, 1) := by decide +kernel
theorem dX7_cuts_32 : decode cX7_cuts 32 = .ok (.aload_n 0, 1) := by decide +kernel
theorem dX7_cuts_33 : decode cX7_cuts 33 = .ok (.getfield 33, 3) := by decide +kernel
theorem dX7_cuts_36 : decode cX7_cuts 36 = .ok (.invokevirtual 114, 3) := by decide +kernel
theorem dX7_cuts_39 : decode cX7_cuts 39 = .ok (.if_icmp .lt 6, 3) := by decide +kernel
theorem dX7_cuts_42 : decode cX7_cuts 42 = .ok (.bipush (-2), 2) := by decide +kernel
theorem dX7_cuts_44 : decode cX7_cuts 44 = .ok (.ireturn, 1) := by decide +kernel
theorem dX7_cuts_45 : decode cX7_cuts 45 = .ok (.aload_n 0, 1) := by decide +kernel
theorem dX7_cuts_46 : decode cX7_cuts 46 = .ok (.getfield 33, 3) := by decide +kernel
theorem dX7_cuts_49 : decode cX7_cuts 49 = .ok (.iload_n 1, 1) := by decide +kernel
theorem dX7_cuts_50 : decode cX7_cuts 50 = .ok (.iload_n 2, 1) := by decide +kernel
theorem dX7_cuts_51 : decode cX7_cuts 51 = .ok (.invokevirtual 142, 3) := by decide +kernel
theorem dX7_cuts_54 : decode cX7_cuts 54 = .ok (.ireturn, 1) := by decide +kernel
abbrev po_X7_cuts (cI cJ : ClassId) (hX7 : Nat) (aX7_above : Nat) (aX7_below : Nat) (hX3 : Nat) (hX2 : Nat) (hX1 : Nat) (hX6 : Nat) (hX0 : Nat) (hX5 : Nat) (aX1_rows : Nat) (aX1_ones : Nat) (aX1_twos : Nat) (aX1_distances : Nat) (aX1_reached : Nat) (f_swaps : Int) (f_there : Int) (f_size : Int) (f_mostShares : Int) (f_rows : Int → Int) (f_ones : Int → Int) (f_twos : Int → Int) (Q : Int → (Int → Int) → (Int → Int) → Int → Int → Int → Prop) : Option Value → va_W → Prop := fun rv w1 => ∃ (r0 : Int) (f_distances : Int → Int) (f_reached : Int → Int) (f_source : Int) (f_looked : Int) (f_ends : Int), rv = some (.int (i32 r0)) ∧ w1 = [(hX7, .inr (6, [.ref aX7_above, .ref aX7_below, .ref hX3, .ref hX2, .ref hX1, .ref hX6, .ref hX0, .ref hX5])), (hX1, .inr (1, [.ref aX1_rows, .ref aX1_ones, .ref aX1_twos, .ref aX1_distances, .ref aX1_reached, .int (i32 f_swaps), .int (i32 f_there), .int (i32 f_size), .int (i32 f_mostShares), .int (i32 f_source), .int (i32 f_looked), .int (i32 f_ends)])), (aX1_rows, aL cJ 2001 f_rows), (aX1_ones, aL cJ 31 f_ones), (aX1_twos, aL cJ 31 f_twos), (aX1_distances, aI cI 2000 f_distances), (aX1_reached, aI cI 2000 f_reached)] ∧ r32 r0 ∧ rr32 f_distances ∧ rr32 f_reached ∧ r32 f_source ∧ r32 f_looked ∧ r32 f_ends ∧ Q r0 f_distances f_reached f_source f_looked f_ends
def wp_X7_cuts_8 (Q : Int → (Int → Int) → (Int → Int) → Int → Int → Int → Prop) (f_rows : Int → Int) (f_ones : Int → Int) (f_twos : Int → Int) (f_swaps : Int) (f_there : Int) (f_size : Int) (f_mostShares : Int) (f_distances : Int → Int) (f_reached : Int → Int) (f_source : Int) (f_looked : Int) (f_ends : Int) : Prop := Q (-1) f_distances f_reached f_source f_looked f_ends
set_option maxHeartbeats 4000000 in
set_option maxRecDepth 100000 in
theorem s_X7_cuts_8 {X : Cx} (g : Gd X cX7_cuts RX7 (some .int) 3) (hR : X.R = rmL 5 0 0) (hX7 : Nat) (aX7_above : Nat) (aX7_below : Nat) (hX3 : Nat) (hX2 : Nat) (hX1 : Nat) (hX6 : Nat) (hX0 : Nat) (hX5 : Nat) (aX1_rows : Nat) (aX1_ones : Nat) (aX1_twos : Nat) (aX1_distances : Nat) (aX1_reached : Nat) (f_rows : Int → Int) (f_ones : Int → Int) (f_twos : Int → Int) (f_swaps : Int) (f_there : Int) (f_size : Int) (f_mostShares : Int) (r_f_rows : rr64 f_rows) (r_f_ones : rr64 f_ones) (r_f_twos : rr64 f_twos) (r_f_swaps : r32 f_swaps) (r_f_there : r32 f_there) (r_f_size : r32 f_size) (r_f_mostShares : r32 f_mostShares) (Q : Int → (Int → Int) → (Int → Int) → Int → Int → Int → Prop) (hF : FQ X 0 0 (po_X7_cuts X.cI X.cJ hX7 aX7_above aX7_below hX3 hX2 hX1 hX6 hX0 hX5 aX1_rows aX1_ones aX1_twos aX1_distances aX1_reached f_swaps f_there f_size f_mostShares f_rows f_ones f_twos Q)) : ∀ (f_distances : Int → Int) (f_reached : Int → Int) (f_source : Int) (f_looked : Int) (f_ends : Int), rr32 f_distances → rr32 f_reached → r32 f_source → r32 f_looked → r32 f_ends → wp_X7_cuts_8 Q f_rows f_ones f_twos f_swaps f_there f_size f_mostShares f_distances f_reached f_source f_looked f_ends → Wat X 0 0 8 [] [] [(hX7, .inr (6, [.ref aX7_above, .ref aX7_below, .ref hX3, .ref hX2, .ref hX1, .ref hX6, .ref hX0, .ref hX5])), (hX1, .inr (1, [.ref aX1_rows, .ref aX1_ones, .ref aX1_twos, .ref aX1_distances, .ref aX1_reached, .int (i32 f_swaps), .int (i32 f_there), .int (i32 f_size), .int (i32 f_mostShares), .int (i32 f_source), .int (i32 f_looked), .int (i32 f_ends)])), (aX1_rows, aL X.cJ 2001 f_rows), (aX1_ones, aL X.cJ 31 f_ones), (aX1_twos, aL X.cJ 31 f_twos), (aX1_distances, aI X.cI 2000 f_distances), (aX1_reached, aI X.cI 2000 f_reached)] := by
  intro f_distances f_reached f_source f_looked f_ends r_f_distances r_f_reached r_f_source r_f_looked r_f_ends h
  rw [wp_X7_cuts_8] at h
  refine q_iconst g (-1) dX7_cuts_8 ?_
  exact q_iret g hF ⟨(-1), f_distances, f_reached, f_source, f_looked, f_ends, rfl, rfl, (r32_lit _ (by decide)), r_f_distances, r_f_reached, r_f_source, r_f_looked, r_f_ends, h⟩ dX7_cuts_9
def wp_X7_cuts_42 (Q : Int → (Int → Int) → (Int → Int) → Int → Int → Int → Prop) (f_rows : Int → Int) (f_ones : Int → Int) (f_twos : Int → Int) (f_swaps : Int) (f_there : Int) (f_size : Int) (f_mostShares : Int) (f_distances : Int → Int) (f_reached : Int → Int) (f_source : Int) (f_looked : Int) (f_ends : Int) : Prop := Q (-2) f_distances f_reached f_source f_looked f_ends
set_option maxHeartbeats 4000000 in
set_option maxRecDepth 100000 in
theorem s_X7_cuts_42 {X : Cx} (g : Gd X cX7_cuts RX7 (some .int) 3) (hR : X.R = rmL 5 0 0) (hX7 : Nat) (aX7_above : Nat) (aX7_below : Nat) (hX3 : Nat) (hX2 : Nat) (hX1 : Nat) (hX6 : Nat) (hX0 : Nat) (hX5 : Nat) (aX1_rows : Nat) (aX1_ones : Nat) (aX1_twos : Nat) (aX1_distances : Nat) (aX1_reached : Nat) (f_rows : Int → Int) (f_ones : Int → Int) (f_twos : Int → Int) (f_swaps : Int) (f_there : Int) (f_size : Int) (f_mostShares : Int) (r_f_rows : rr64 f_rows) (r_f_ones : rr64 f_ones) (r_f_twos : rr64 f_twos) (r_f_swaps : r32 f_swaps) (r_f_there : r32 f_there) (r_f_size : r32 f_size) (r_f_mostShares : r32 f_mostShares) (Q : Int → (Int → Int) → (Int → Int) → Int → Int → Int → Prop) (hF : FQ X 0 0 (po_X7_cuts X.cI X.cJ hX7 aX7_above aX7_below hX3 hX2 hX1 hX6 hX0 hX5 aX1_rows aX1_ones aX1_twos aX1_distances aX1_reached f_swaps f_there f_size f_mostShares f_rows f_ones f_twos Q)) : ∀ (f_distances : Int → Int) (f_reached : Int → Int) (f_source : Int) (f_looked : Int) (f_ends : Int), rr32 f_distances → rr32 f_reached → r32 f_source → r32 f_looked → r32 f_ends → wp_X7_cuts_42 Q f_rows f_ones f_twos f_swaps f_there f_size f_mostShares f_distances f_reached f_source f_looked f_ends → Wat X 0 0 42 [] [] [(hX7, .inr (6, [.ref aX7_above, .ref aX7_below, .ref hX3, .ref hX2, .ref hX1, .ref hX6, .ref hX0, .ref hX5])), (hX1, .inr (1, [.ref aX1_rows, .ref aX1_ones, .ref aX1_twos, .ref aX1_distances, .ref aX1_reached, .int (i32 f_swaps), .int (i32 f_there), .int (i32 f_size), .int (i32 f_mostShares), .int (i32 f_source), .int (i32 f_looked), .int (i32 f_ends)])), (aX1_rows, aL X.cJ 2001 f_rows), (aX1_ones, aL X.cJ 31 f_ones), (aX1_twos, aL X.cJ 31 f_twos), (aX1_distances, aI X.cI 2000 f_distances), (aX1_reached, aI X.cI 2000 f_reached)] := by
  intro f_distances f_reached f_source f_looked f_ends r_f_distances r_f_reached r_f_source r_f_looked r_f_ends h
  rw [wp_X7_cuts_42] at h
  refine q_bipush g (-2) (by decide) (by decide) dX7_cuts_42 ?_
  exact q_iret g hF ⟨(-2), f_distances, f_reached, f_source, f_looked, f_ends, rfl, rfl, (r32_lit _ (by decide)), r_f_distances, r_f_reached, r_f_source, r_f_looked, r_f_ends, h⟩ dX7_cuts_44
def wp_X7_cuts (Q : Int → (Int → Int) → (Int → Int) → Int → Int → Int → Prop) (f_rows : Int → Int) (f_ones : Int → Int) (f_twos : Int → Int) (f_distances : Int → Int) (f_reached : Int → Int) (f_swaps : Int) (f_there : Int) (f_size : Int) (f_mostShares : Int) (f_source : Int) (f_looked : Int) (f_ends : Int) (l1 : Int) (l2 : Int) : Prop := ((l1 < 0 → wp_X7_cuts_8 Q f_rows f_ones f_twos f_swaps f_there f_size f_mostShares f_distances f_reached f_source f_looked f_ends) ∧
  (¬ (l1 < 0) → ((0 ≤ l2 → wp_X1_isThere (fun (x14 : Int) => ((x14 = 0 → wp_X7_cuts_42 Q f_rows f_ones f_twos f_swaps f_there f_size f_mostShares f_distances f_reached f_source f_looked f_ends) ∧
  (¬ (x14 = 0) → wp_X1_size (fun (x25 : Int) => ((x25 ≤ l1 → wp_X7_cuts_42 Q f_rows f_ones f_twos f_swaps f_there f_size f_mostShares f_distances f_reached f_source f_looked f_ends) ∧
  (¬ (x25 ≤ l1) → wp_X1_size (fun (x36 : Int) => ((l2 < x36 → wp_X1_fewestSteps (fun (x51 : Int) (f_distances_51 : Int → Int) (f_reached_51 : Int → Int) (f_source_51 : Int) (f_looked_51 : Int) (f_ends_51 : Int) => Q x51 f_distances_51 f_reached_51 f_source_51 f_looked_51 f_ends_51) f_rows f_ones f_twos f_distances f_reached f_swaps f_size f_mostShares f_source f_looked f_ends l1 l2) ∧
  (¬ (l2 < x36) → wp_X7_cuts_42 Q f_rows f_ones f_twos f_swaps f_there f_size f_mostShares f_distances f_reached f_source f_looked f_ends))) f_size))) f_size))) f_there) ∧
  (¬ (0 ≤ l2) → wp_X7_cuts_8 Q f_rows f_ones f_twos f_swaps f_there f_size f_mostShares f_distances f_reached f_source f_looked f_ends))))
set_option maxHeartbeats 4000000 in
set_option maxRecDepth 100000 in
theorem c_X7_cuts (l : Launch) (D : va_G) (cI cJ : ClassId) (zt : Nat) (hX7 : Nat) (aX7_above : Nat) (aX7_below : Nat) (hX3 : Nat) (hX2 : Nat) (hX1 : Nat) (hX6 : Nat) (hX0 : Nat) (hX5 : Nat) (aX1_rows : Nat) (aX1_ones : Nat) (aX1_twos : Nat) (aX1_distances : Nat) (aX1_reached : Nat) (f_swaps : Int) (f_there : Int) (f_size : Int) (f_mostShares : Int) (f_source : Int) (f_looked : Int) (f_ends : Int) (f_rows : Int → Int) (f_ones : Int → Int) (f_twos : Int → Int) (f_distances : Int → Int) (f_reached : Int → Int) (l1 : Int) (l2 : Int) (Q : Int → (Int → Int) → (Int → Int) → Int → Int → Int → Prop) (r_f_rows : rr64 f_rows) (r_f_ones : rr64 f_ones) (r_f_twos : rr64 f_twos) (r_f_distances : rr32 f_distances) (r_f_reached : rr32 f_reached) (r_f_swaps : r32 f_swaps) (r_f_there : r32 f_there) (r_f_size : r32 f_size) (r_f_mostShares : r32 f_mostShares) (r_f_source : r32 f_source) (r_f_looked : r32 f_looked) (r_f_ends : r32 f_ends) (r_l1 : r32 l1) (r_l2 : r32 l2) (h : wp_X7_cuts Q f_rows f_ones f_twos f_distances f_reached f_swaps f_there f_size f_mostShares f_source f_looked f_ends l1 l2) : Ct l D cI cJ zt yX7_cuts cX7_cuts 3 (some .int) 5 0 0 [.ref hX7, .int (i32 l1), .int (i32 l2)] [(hX7, .inr (6, [.ref aX7_above, .ref aX7_below, .ref hX3, .ref hX2, .ref hX1, .ref hX6, .ref hX0, .ref hX5])), (hX1, .inr (1, [.ref aX1_rows, .ref aX1_ones, .ref aX1_twos, .ref aX1_distances, .ref aX1_reached, .int (i32 f_swaps), .int (i32 f_there), .int (i32 f_size), .int (i32 f_mostShares), .int (i32 f_source), .int (i32 f_looked), .int (i32 f_ends)])), (aX1_rows, aL cJ 2001 f_rows), (aX1_ones, aL cJ 31 f_ones), (aX1_twos, aL cJ 31 f_twos), (aX1_distances, aI cI 2000 f_distances), (aX1_reached, aI cI 2000 f_reached)] (po_X7_cuts cI cJ hX7 aX7_above aX7_below hX3 hX2 hX1 hX6 hX0 hX5 aX1_rows aX1_ones aX1_twos aX1_distances aX1_reached f_swaps f_there f_size f_mostShares f_rows f_ones f_twos Q) := by
  refine ct_of (by decide +kernel) (Nat.le_of_ble_eq_true rfl) (fun X hl hDD hcI hcJ hzt hR hF hnm g => ?_)
  subst hl; subst hDD; subst hcI; subst hcJ; subst hzt
  show Wat X 0 0 0 [(0, .ref hX7), (1, .int (i32 l1)), (2, .int (i32 l2))] [] [(hX7, .inr (6, [.ref aX7_above, .ref aX7_below, .ref hX3, .ref hX2, .ref hX1, .ref hX6, .ref hX0, .ref hX5])), (hX1, .inr (1, [.ref aX1_rows, .ref aX1_ones, .ref aX1_twos, .ref aX1_distances, .ref aX1_reached, .int (i32 f_swaps), .int (i32 f_there), .int (i32 f_size), .int (i32 f_mostShares), .int (i32 f_source), .int (i32 f_looked), .int (i32 f_ends)])), (aX1_rows, aL X.cJ 2001 f_rows), (aX1_ones, aL X.cJ 31 f_ones), (aX1_twos, aL X.cJ 31 f_twos), (aX1_distances, aI X.cI 2000 f_distances), (aX1_reached, aI X.cI 2000 f_reached)]
  replace g : Gd X cX7_cuts RX7 (some .int) 3 := g
  rw [wp_X7_cuts] at h
  refine q_iload_n g 1 1 rfl dX7_cuts_0 ?_
  refine q_if_lt g (7) 8 r_l1 (by decide) dX7_cuts_1 (fun b1 => ?_) (fun b1 => ?_)
  · replace h := h.1 b1
    refine q_lv (lv' := []) [] rfl ?_
    exact s_X7_cuts_8 g hR hX7 aX7_above aX7_below hX3 hX2 hX1 hX6 hX0 hX5 aX1_rows aX1_ones aX1_twos aX1_distances aX1_reached f_rows f_ones f_twos f_swaps f_there f_size f_mostShares r_f_rows r_f_ones r_f_twos r_f_swaps r_f_there r_f_size r_f_mostShares Q hF f_distances f_reached f_source f_looked f_ends r_f_distances r_f_reached r_f_source r_f_looked r_f_ends h
  replace h := h.2 b1
  refine q_iload_n g 2 2 rfl dX7_cuts_4 ?_
  refine q_if_ge g (5) 10 r_l2 (by decide) dX7_cuts_5 (fun b5 => ?_) (fun b5 => ?_)
  · replace h := h.1 b5
    refine q_aload_n g 0 0 rfl dX7_cuts_10 ?_
    refine q_get (C := RX7) (T := TX7) (N := 8) g 33 inX7 0 4 rfl rfl (by decide) wF_X7_33 rfl dX7_cuts_11 ?_
    refine q_callV (lev := 1) (mc := 0) (ms := 0) g 110 (c_X1_isThere X.l X.D X.cI X.cJ X.zt hX1 aX1_rows aX1_ones aX1_twos aX1_distances aX1_reached f_swaps f_there f_size f_mostShares f_source f_looked f_ends _ r_f_there h) (wr := [(hX7, .inr (6, [.ref aX7_above, .ref aX7_below, .ref hX3, .ref hX2, .ref hX1, .ref hX6, .ref hX0, .ref hX5])), (aX1_rows, aL X.cJ 2001 f_rows), (aX1_ones, aL X.cJ 31 f_ones), (aX1_twos, aL X.cJ 31 f_twos), (aX1_distances, aI X.cI 2000 f_distances), (aX1_reached, aI X.cI 2000 f_reached)]) [1] [0, 2, 3, 4, 5, 6] rfl rfl rfl (by decide) (by decide) (by decide) (ci := 1) rfl rfl rfl wM_X7_110 wI_X1_isThere wS_X1_isThere wZ_X1 wC_X1_isThere 0 rfl (by decide +kernel) (by rw [hR]; exact ⟨by show 1 + 1 ≤ 5; omega, by show 8 + (1 + 11) + 100 * 1 ≤ 100 * 5; omega⟩) (by rw [hR]; exact ⟨Nat.le_refl _, Nat.le_refl _⟩) (Nat.le_of_ble_eq_true rfl) rfl dX7_cuts_14 (fun rv w1 hq => ?_)
    obtain ⟨x14, rfl, rfl, rx14, h⟩ := hq
    refine q_ws (ws' := [(hX7, .inr (6, [.ref aX7_above, .ref aX7_below, .ref hX3, .ref hX2, .ref hX1, .ref hX6, .ref hX0, .ref hX5])), (hX1, .inr (1, [.ref aX1_rows, .ref aX1_ones, .ref aX1_twos, .ref aX1_distances, .ref aX1_reached, .int (i32 f_swaps), .int (i32 f_there), .int (i32 f_size), .int (i32 f_mostShares), .int (i32 f_source), .int (i32 f_looked), .int (i32 f_ends)])), (aX1_rows, aL X.cJ 2001 f_rows), (aX1_ones, aL X.cJ 31 f_ones), (aX1_twos, aL X.cJ 31 f_twos), (aX1_distances, aI X.cI 2000 f_distances), (aX1_reached, aI X.cI 2000 f_reached)]) [0, 6, 1, 2, 3, 4, 5] (by decide) rfl rfl ?_
    show Wat X 0 0 17 [(0, .ref hX7), (1, .int (i32 l1)), (2, .int (i32 l2))] [.int (i32 x14)] [(hX7, .inr (6, [.ref aX7_above, .ref aX7_below, .ref hX3, .ref hX2, .ref hX1, .ref hX6, .ref hX0, .ref hX5])), (hX1, .inr (1, [.ref aX1_rows, .ref aX1_ones, .ref aX1_twos, .ref aX1_distances, .ref aX1_reached, .int (i32 f_swaps), .int (i32 f_there), .int (i32 f_size), .int (i32 f_mostShares), .int (i32 f_source), .int (i32 f_looked), .int (i32 f_ends)])), (aX1_rows, aL X.cJ 2001 f_rows), (aX1_ones, aL X.cJ 31 f_ones), (aX1_twos, aL X.cJ 31 f_twos), (aX1_distances, aI X.cI 2000 f_distances), (aX1_reached, aI X.cI 2000 f_reached)]
    refine q_if_eq g (25) 42 rx14 (by decide) dX7_cuts_17 (fun b17 => ?_) (fun b17 => ?_)
    · replace h := h.1 b17
      refine q_lv (lv' := []) [] rfl ?_
      exact s_X7_cuts_42 g hR hX7 aX7_above aX7_below hX3 hX2 hX1 hX6 hX0 hX5 aX1_rows aX1_ones aX1_twos aX1_distances aX1_reached f_rows f_ones f_twos f_swaps f_there f_size f_mostShares r_f_rows r_f_ones r_f_twos r_f_swaps r_f_there r_f_size r_f_mostShares Q hF f_distances f_reached f_source f_looked f_ends r_f_distances r_f_reached r_f_source r_f_looked r_f_ends h
    replace h := h.2 b17
    refine q_iload_n g 1 1 rfl dX7_cuts_20 ?_
    refine q_aload_n g 0 0 rfl dX7_cuts_21 ?_
    refine q_get (C := RX7) (T := TX7) (N := 8) g 33 inX7 0 4 rfl rfl (by decide) wF_X7_33 rfl dX7_cuts_22 ?_
    refine q_callV (lev := 1) (mc := 0) (ms := 0) g 114 (c_X1_size X.l X.D X.cI X.cJ X.zt hX1 aX1_rows aX1_ones aX1_twos aX1_distances aX1_reached f_swaps f_there f_size f_mostShares f_source f_looked f_ends _ r_f_size h) (wr := [(hX7, .inr (6, [.ref aX7_above, .ref aX7_below, .ref hX3, .ref hX2, .ref hX1, .ref hX6, .ref hX0, .ref hX5])), (aX1_rows, aL X.cJ 2001 f_rows), (aX1_ones, aL X.cJ 31 f_ones), (aX1_twos, aL X.cJ 31 f_twos), (aX1_distances, aI X.cI 2000 f_distances), (aX1_reached, aI X.cI 2000 f_reached)]) [1] [0, 2, 3, 4, 5, 6] rfl rfl rfl (by decide) (by decide) (by decide) (ci := 1) rfl rfl rfl wM_X7_114 wI_X1_size wS_X1_size wZ_X1 wC_X1_size 0 rfl (by decide +kernel) (by rw [hR]; exact ⟨by show 1 + 1 ≤ 5; omega, by show 8 + (1 + 11) + 100 * 1 ≤ 100 * 5; omega⟩) (by rw [hR]; exact ⟨Nat.le_refl _, Nat.le_refl _⟩) (Nat.le_of_ble_eq_true rfl) rfl dX7_cuts_25 (fun rv w1 hq => ?_)
    obtain ⟨x25, rfl, rfl, rx25, h⟩ := hq
    refine q_ws (ws' := [(hX7, .inr (6, [.ref aX7_above, .ref aX7_below, .ref hX3, .ref hX2, .ref hX1, .ref hX6, .ref hX0, .ref hX5])), (hX1, .inr (1, [.ref aX1_rows, .ref aX1_ones, .ref aX1_twos, .ref aX1_distances, .ref aX1_reached, .int (i32 f_swaps), .int (i32 f_there), .int (i32 f_size), .int (i32 f_mostShares), .int (i32 f_source), .int (i32 f_looked), .int (i32 f_ends)])), (aX1_rows, aL X.cJ 2001 f_rows), (aX1_ones, aL X.cJ 31 f_ones), (aX1_twos, aL X.cJ 31 f_twos), (aX1_distances, aI X.cI 2000 f_distances), (aX1_reached, aI X.cI 2000 f_reached)]) [0, 6, 1, 2, 3, 4, 5] (by decide) rfl rfl ?_
    show Wat X 0 0 28 [(0, .ref hX7), (1, .int (i32 l1)), (2, .int (i32 l2))] [.int (i32 x25), .int (i32 l1)] [(hX7, .inr (6, [.ref aX7_above, .ref aX7_below, .ref hX3, .ref hX2, .ref hX1, .ref hX6, .ref hX0, .ref hX5])), (hX1, .inr (1, [.ref aX1_rows, .ref aX1_ones, .ref aX1_twos, .ref aX1_distances, .ref aX1_reached, .int (i32 f_swaps), .int (i32 f_there), .int (i32 f_size), .int (i32 f_mostShares), .int (i32 f_source), .int (i32 f_looked), .int (i32 f_ends)])), (aX1_rows, aL X.cJ 2001 f_rows), (aX1_ones, aL X.cJ 31 f_ones), (aX1_twos, aL X.cJ 31 f_twos), (aX1_distances, aI X.cI 2000 f_distances), (aX1_reached, aI X.cI 2000 f_reached)]
    refine q_icmp_ge g (14) 42 r_l1 rx25 (by decide) dX7_cuts_28 (fun b28 => ?_) (fun b28 => ?_)
    · replace h := h.1 b28
      refine q_lv (lv' := []) [] rfl ?_
      exact s_X7_cuts_42 g hR hX7 aX7_above aX7_below hX3 hX2 hX1 hX6 hX0 hX5 aX1_rows aX1_ones aX1_twos aX1_distances aX1_reached f_rows f_ones f_twos f_swaps f_there f_size f_mostShares r_f_rows r_f_ones r_f_twos r_f_swaps r_f_there r_f_size r_f_mostShares Q hF f_distances f_reached f_source f_looked f_ends r_f_distances r_f_reached r_f_source r_f_looked r_f_ends h
    replace h := h.2 b28
    refine q_iload_n g 2 2 rfl dX7_cuts_31 ?_
    refine q_aload_n g 0 0 rfl dX7_cuts_32 ?_
    refine q_get (C := RX7) (T := TX7) (N := 8) g 33 inX7 0 4 rfl rfl (by decide) wF_X7_33 rfl dX7_cuts_33 ?_
    refine q_callV (lev := 1) (mc := 0) (ms := 0) g 114 (c_X1_size X.l X.D X.cI X.cJ X.zt hX1 aX1_rows aX1_ones aX1_twos aX1_distances aX1_reached f_swaps f_there f_size f_mostShares f_source f_looked f_ends _ r_f_size h) (wr := [(hX7, .inr (6, [.ref aX7_above, .ref aX7_below, .ref hX3, .ref hX2, .ref hX1, .ref hX6, .ref hX0, .ref hX5])), (aX1_rows, aL X.cJ 2001 f_rows), (aX1_ones, aL X.cJ 31 f_ones), (aX1_twos, aL X.cJ 31 f_twos), (aX1_distances, aI X.cI 2000 f_distances), (aX1_reached, aI X.cI 2000 f_reached)]) [1] [0, 2, 3, 4, 5, 6] rfl rfl rfl (by decide) (by decide) (by decide) (ci := 1) rfl rfl rfl wM_X7_114 wI_X1_size wS_X1_size wZ_X1 wC_X1_size 0 rfl (by decide +kernel) (by rw [hR]; exact ⟨by show 1 + 1 ≤ 5; omega, by show 8 + (1 + 11) + 100 * 1 ≤ 100 * 5; omega⟩) (by rw [hR]; exact ⟨Nat.le_refl _, Nat.le_refl _⟩) (Nat.le_of_ble_eq_true rfl) rfl dX7_cuts_36 (fun rv w1 hq => ?_)
    obtain ⟨x36, rfl, rfl, rx36, h⟩ := hq
    refine q_ws (ws' := [(hX7, .inr (6, [.ref aX7_above, .ref aX7_below, .ref hX3, .ref hX2, .ref hX1, .ref hX6, .ref hX0, .ref hX5])), (hX1, .inr (1, [.ref aX1_rows, .ref aX1_ones, .ref aX1_twos, .ref aX1_distances, .ref aX1_reached, .int (i32 f_swaps), .int (i32 f_there), .int (i32 f_size), .int (i32 f_mostShares), .int (i32 f_source), .int (i32 f_looked), .int (i32 f_ends)])), (aX1_rows, aL X.cJ 2001 f_rows), (aX1_ones, aL X.cJ 31 f_ones), (aX1_twos, aL X.cJ 31 f_twos), (aX1_distances, aI X.cI 2000 f_distances), (aX1_reached, aI X.cI 2000 f_reached)]) [0, 6, 1, 2, 3, 4, 5] (by decide) rfl rfl ?_
    show Wat X 0 0 39 [(0, .ref hX7), (1, .int (i32 l1)), (2, .int (i32 l2))] [.int (i32 x36), .int (i32 l2)] [(hX7, .inr (6, [.ref aX7_above, .ref aX7_below, .ref hX3, .ref hX2, .ref hX1, .ref hX6, .ref hX0, .ref hX5])), (hX1, .inr (1, [.ref aX1_rows, .ref aX1_ones, .ref aX1_twos, .ref aX1_distances, .ref aX1_reached, .int (i32 f_swaps), .int (i32 f_there), .int (i32 f_size), .int (i32 f_mostShares), .int (i32 f_source), .int (i32 f_looked), .int (i32 f_ends)])), (aX1_rows, aL X.cJ 2001 f_rows), (aX1_ones, aL X.cJ 31 f_ones), (aX1_twos, aL X.cJ 31 f_twos), (aX1_distances, aI X.cI 2000 f_distances), (aX1_reached, aI X.cI 2000 f_reached)]
    refine q_icmp_lt g (6) 45 r_l2 rx36 (by decide) dX7_cuts_39 (fun b39 => ?_) (fun b39 => ?_)
    · replace h := h.1 b39
      refine q_aload_n g 0 0 rfl dX7_cuts_45 ?_
      refine q_get (C := RX7) (T := TX7) (N := 8) g 33 inX7 0 4 rfl rfl (by decide) wF_X7_33 rfl dX7_cuts_46 ?_
      refine q_iload_n g 1 1 rfl dX7_cuts_49 ?_
      refine q_iload_n g 2 2 rfl dX7_cuts_50 ?_
      refine q_callV (lev := 4) (mc := 0) (ms := 0) g 142 (c_X1_fewestSteps X.l X.D X.cI X.cJ X.zt hX1 aX1_rows aX1_ones aX1_twos aX1_distances aX1_reached f_swaps f_there f_size f_mostShares f_source f_looked f_ends f_rows f_ones f_twos f_distances f_reached l1 l2 _ r_f_rows r_f_ones r_f_twos r_f_distances r_f_reached r_f_swaps r_f_size r_f_mostShares r_f_source r_f_looked r_f_ends r_l1 r_l2 h) (wr := [(hX7, .inr (6, [.ref aX7_above, .ref aX7_below, .ref hX3, .ref hX2, .ref hX1, .ref hX6, .ref hX0, .ref hX5]))]) [1, 2, 3, 4, 5, 6] [0] rfl rfl rfl (by decide) (by decide) (by decide) (ci := 1) rfl rfl rfl wM_X7_142 wI_X1_fewestSteps wS_X1_fewestSteps wZ_X1 wC_X1_fewestSteps 2 rfl (by decide +kernel) (by rw [hR]; exact ⟨by show 4 + 1 ≤ 5; omega, by show 8 + (3 + 11) + 100 * 4 ≤ 100 * 5; omega⟩) (by rw [hR]; exact ⟨Nat.le_refl _, Nat.le_refl _⟩) (Nat.le_of_ble_eq_true rfl) rfl dX7_cuts_51 (fun rv w1 hq => ?_)
      obtain ⟨x51, f_distances_51, f_reached_51, f_source_51, f_looked_51, f_ends_51, rfl, rfl, rx51, rf_distances_51, rf_reached_51, rf_source_51, rf_looked_51, rf_ends_51, h⟩ := hq
      show Wat X 0 0 54 [(0, .ref hX7), (1, .int (i32 l1)), (2, .int (i32 l2))] [.int (i32 x51)] [(hX7, .inr (6, [.ref aX7_above, .ref aX7_below, .ref hX3, .ref hX2, .ref hX1, .ref hX6, .ref hX0, .ref hX5])), (hX1, .inr (1, [.ref aX1_rows, .ref aX1_ones, .ref aX1_twos, .ref aX1_distances, .ref aX1_reached, .int (i32 f_swaps), .int (i32 f_there), .int (i32 f_size), .int (i32 f_mostShares), .int (i32 f_source_51), .int (i32 f_looked_51), .int (i32 f_ends_51)])), (aX1_rows, aL X.cJ 2001 f_rows), (aX1_ones, aL X.cJ 31 f_ones), (aX1_twos, aL X.cJ 31 f_twos), (aX1_distances, aI X.cI 2000 f_distances_51), (aX1_reached, aI X.cI 2000 f_reached_51)]
      exact q_iret g hF ⟨x51, f_distances_51, f_reached_51, f_source_51, f_looked_51, f_ends_51, rfl, rfl, rx51, rf_distances_51, rf_reached_51, rf_source_51, rf_looked_51, rf_ends_51, h⟩ dX7_cuts_54
    replace h := h.2 b39
    refine q_lv (lv' := []) [] rfl ?_
    exact s_X7_cuts_42 g hR hX7 aX7_above aX7_below hX3 hX2 hX1 hX6 hX0 hX5 aX1_rows aX1_ones aX1_twos aX1_distances aX1_reached f_rows f_ones f_twos f_swaps f_there f_size f_mostShares r_f_rows r_f_ones r_f_twos r_f_swaps r_f_there r_f_size r_f_mostShares Q hF f_distances f_reached f_source f_looked f_ends r_f_distances r_f_reached r_f_source r_f_looked r_f_ends h
  replace h := h.2 b5
  refine q_lv (lv' := []) [] rfl ?_
  exact s_X7_cuts_8 g hR hX7 aX7_above aX7_below hX3 hX2 hX1 hX6 hX0 hX5 aX1_rows aX1_ones aX1_twos aX1_distances aX1_reached f_rows f_ones f_twos f_swaps f_there f_size f_mostShares r_f_rows r_f_ones r_f_twos r_f_swaps r_f_there r_f_size r_f_mostShares Q hF f_distances f_reached f_source f_looked f_ends r_f_distances r_f_reached r_f_source r_f_looked r_f_ends h
theorem dX7_isProper_0 : decode cX7_isProper 0 = .ok (.iload_n 1, 1) := by decide +kernel
theorem dX7_isProper_1 : decode cX7_isProper 1 = .ok (.invokestatic 64, 3) := by decide +kernel
theorem dX7_isProper_4 : decode cX7_isProper 4 = .ok (.ifCond .eq 31, 3) := by decide +kernel
theorem dX7_isProper_7 : decode cX7_isProper 7 = .ok (.aload_n 0, 1) := by decide +kernel
theorem dX7_isProper_8 : decode cX7_isProper 8 = .ok (.getfield 9, 3) := by decide +kernel
theorem dX7_isProper_11 : decode cX7_isProper 11 = .ok (.iload_n 1, 1) := by decide +kernel
theorem dX7_isProper_12 : decode cX7_isProper 12 = .ok (.iaload, 1) := by decide +kernel
theorem dX7_isProper_13 : decode cX7_isProper 13 = .ok (.ifCond .le 22, 3) := by decide +kernel
theorem dX7_isProper_16 : decode cX7_isProper 16 = .ok (.aload_n 0, 1) := by decide +kernel
theorem dX7_isProper_17 : decode cX7_isProper 17 = .ok (.getfield 9, 3) := by decide +kernel
theorem dX7_isProper_20 : decode cX7_isProper 20 = .ok (.iload_n 1, 1) := by decide +kernel
theorem dX7_isProper_21 : decode cX7_isProper 21 = .ok (.iaload, 1) := by decide +kernel
theorem dX7_isProper_22 : decode cX7_isProper 22 = .ok (.aload_n 0, 1) := by decide +kernel
theorem dX7_isProper_23 : decode cX7_isProper 23 = .ok (.getfield 13, 3) := by decide +kernel
theorem dX7_isProper_26 : decode cX7_isProper 26 = .ok (.iload_n 1, 1) := by decide +kernel
theorem dX7_isProper_27 : decode cX7_isProper 27 = .ok (.iaload, 1) := by decide +kernel
theorem dX7_isProper_28 : decode cX7_isProper 28 = .ok (.if_icmp .ge 7, 3) := by decide +kernel
theorem dX7_isProper_31 : decode cX7_isProper 31 = .ok (.iconst 1, 1) := by decide +kernel
theorem dX7_isProper_32 : decode cX7_isProper 32 = .ok (.goto 4, 3) := by decide +kernel
theorem dX7_isProper_35 : decode cX7_isProper 35 = .ok (.iconst 0, 1) := by decide +kernel
theorem dX7_isProper_36 : decode cX7_isProper 36 = .ok (.ireturn, 1) := by decide +kernel
abbrev po_X7_isProper (cI cJ : ClassId) (hX7 : Nat) (aX7_above : Nat) (aX7_below : Nat) (hX3 : Nat) (hX2 : Nat) (hX1 : Nat) (hX6 : Nat) (hX0 : Nat) (hX5 : Nat) (s_above : Int → Int) (s_below : Int → Int) (Q : Int → Prop) : Option Value → va_W → Prop := fun rv w1 => ∃ (r0 : Int), rv = some (.int (i32 r0)) ∧ w1 = [(hX7, .inr (6, [.ref aX7_above, .ref aX7_below, .ref hX3, .ref hX2, .ref hX1, .ref hX6, .ref hX0, .ref hX5])), (aX7_above, aI cI 8 s_above), (aX7_below, aI cI 8 s_below)] ∧ r32 r0 ∧ Q r0
def wp_X7_isProper_36 (Q : Int → Prop) (s_above : Int → Int) (s_below : Int → Int) (k0 : Int) : Prop := ((k0 = 0 ∨ k0 = 1) ∧ Q k0)
set_option maxHeartbeats 4000000 in
set_option maxRecDepth 100000 in
theorem s_X7_isProper_36 {X : Cx} (g : Gd X cX7_isProper RX7 (some .boolean) 2) (hR : X.R = rmL 2 0 0) (hX7 : Nat) (aX7_above : Nat) (aX7_below : Nat) (hX3 : Nat) (hX2 : Nat) (hX1 : Nat) (hX6 : Nat) (hX0 : Nat) (hX5 : Nat) (s_above : Int → Int) (s_below : Int → Int) (r_s_above : rr32 s_above) (r_s_below : rr32 s_below) (Q : Int → Prop) (hF : FQ X 0 0 (po_X7_isProper X.cI X.cJ hX7 aX7_above aX7_below hX3 hX2 hX1 hX6 hX0 hX5 s_above s_below Q)) : ∀ (k0 : Int), r32 k0 → wp_X7_isProper_36 Q s_above s_below k0 → Wat X 0 0 36 [] [.int (i32 k0)] [(hX7, .inr (6, [.ref aX7_above, .ref aX7_below, .ref hX3, .ref hX2, .ref hX1, .ref hX6, .ref hX0, .ref hX5])), (aX7_above, aI X.cI 8 s_above), (aX7_below, aI X.cI 8 s_below)] := by
  intro k0 r_k0 h
  rw [wp_X7_isProper_36] at h
  obtain ⟨z36, h⟩ := h
  exact q_zret g hF z36 ⟨k0, rfl, rfl, r_k0, h⟩ dX7_isProper_36
def wp_X7_isProper_35 (Q : Int → Prop) (s_above : Int → Int) (s_below : Int → Int) : Prop := wp_X7_isProper_36 Q s_above s_below 0
set_option maxHeartbeats 4000000 in
set_option maxRecDepth 100000 in
theorem s_X7_isProper_35 {X : Cx} (g : Gd X cX7_isProper RX7 (some .boolean) 2) (hR : X.R = rmL 2 0 0) (hX7 : Nat) (aX7_above : Nat) (aX7_below : Nat) (hX3 : Nat) (hX2 : Nat) (hX1 : Nat) (hX6 : Nat) (hX0 : Nat) (hX5 : Nat) (s_above : Int → Int) (s_below : Int → Int) (r_s_above : rr32 s_above) (r_s_below : rr32 s_below) (Q : Int → Prop) (hF : FQ X 0 0 (po_X7_isProper X.cI X.cJ hX7 aX7_above aX7_below hX3 hX2 hX1 hX6 hX0 hX5 s_above s_below Q)) : wp_X7_isProper_35 Q s_above s_below → Wat X 0 0 35 [] [] [(hX7, .inr (6, [.ref aX7_above, .ref aX7_below, .ref hX3, .ref hX2, .ref hX1, .ref hX6, .ref hX0, .ref hX5])), (aX7_above, aI X.cI 8 s_above), (aX7_below, aI X.cI 8 s_below)] := by
  intro h
  rw [wp_X7_isProper_35] at h
  refine q_iconst g (0) dX7_isProper_35 ?_
  exact s_X7_isProper_36 g hR hX7 aX7_above aX7_below hX3 hX2 hX1 hX6 hX0 hX5 s_above s_below r_s_above r_s_below Q hF 0 (r32_lit _ (by decide)) h
def wp_X7_isProper (Q : Int → Prop) (s_above : Int → Int) (s_below : Int → Int) (l1 : Int) : Prop := wp_X7_isRegister (fun (x1 : Int) => ((x1 = 0 → wp_X7_isProper_35 Q s_above s_below) ∧
  (¬ (x1 = 0) → (0 ≤ l1 ∧ l1 < 8 ∧ (((s_above l1) ≤ 0 → wp_X7_isProper_35 Q s_above s_below) ∧
  (¬ ((s_above l1) ≤ 0) → (0 ≤ l1 ∧ l1 < 8 ∧ 0 ≤ l1 ∧ l1 < 8 ∧ (((s_below l1) ≤ (s_above l1) → wp_X7_isProper_35 Q s_above s_below) ∧
  (¬ ((s_below l1) ≤ (s_above l1)) → wp_X7_isProper_36 Q s_above s_below 1))))))))) l1
set_option maxHeartbeats 4000000 in
set_option maxRecDepth 100000 in
theorem c_X7_isProper (l : Launch) (D : va_G) (cI cJ : ClassId) (zt : Nat) (hX7 : Nat) (aX7_above : Nat) (aX7_below : Nat) (hX3 : Nat) (hX2 : Nat) (hX1 : Nat) (hX6 : Nat) (hX0 : Nat) (hX5 : Nat) (s_above : Int → Int) (s_below : Int → Int) (l1 : Int) (Q : Int → Prop) (r_s_above : rr32 s_above) (r_s_below : rr32 s_below) (r_l1 : r32 l1) (h : wp_X7_isProper Q s_above s_below l1) : Ct l D cI cJ zt yX7_isProper cX7_isProper 2 (some .boolean) 2 0 0 [.ref hX7, .int (i32 l1)] [(hX7, .inr (6, [.ref aX7_above, .ref aX7_below, .ref hX3, .ref hX2, .ref hX1, .ref hX6, .ref hX0, .ref hX5])), (aX7_above, aI cI 8 s_above), (aX7_below, aI cI 8 s_below)] (po_X7_isProper cI cJ hX7 aX7_above aX7_below hX3 hX2 hX1 hX6 hX0 hX5 s_above s_below Q) := by
  refine ct_of (by decide +kernel) (Nat.le_of_ble_eq_true rfl) (fun X hl hDD hcI hcJ hzt hR hF hnm g => ?_)
  subst hl; subst hDD; subst hcI; subst hcJ; subst hzt
  show Wat X 0 0 0 [(0, .ref hX7), (1, .int (i32 l1))] [] [(hX7, .inr (6, [.ref aX7_above, .ref aX7_below, .ref hX3, .ref hX2, .ref hX1, .ref hX6, .ref hX0, .ref hX5])), (aX7_above, aI X.cI 8 s_above), (aX7_below, aI X.cI 8 s_below)]
  replace g : Gd X cX7_isProper RX7 (some .boolean) 2 := g
  rw [wp_X7_isProper] at h
  refine q_iload_n g 1 1 rfl dX7_isProper_0 ?_
  refine q_callS (lev := 1) (mc := 0) (ms := 0) (As := [.int (i32 l1)]) g 64 (c_X7_isRegister X.l X.D X.cI X.cJ X.zt l1 _ r_l1 h) (wr := [(hX7, .inr (6, [.ref aX7_above, .ref aX7_below, .ref hX3, .ref hX2, .ref hX1, .ref hX6, .ref hX0, .ref hX5])), (aX7_above, aI X.cI 8 s_above), (aX7_below, aI X.cI 8 s_below)]) [] [0, 1, 2] rfl rfl rfl (by decide) (by decide) (by decide) wM_X7_64 wT_X7_isRegister wZ_X7 wC_X7_isRegister 1 rfl (by decide +kernel) (by rw [hR]; exact ⟨by show 1 + 1 ≤ 2; omega, by show 8 + (1 + 11) + 100 * 1 ≤ 100 * 2; omega⟩) (by rw [hR]; exact ⟨Nat.le_refl _, Nat.le_refl _⟩) (Nat.le_of_ble_eq_true rfl) rfl dX7_isProper_1 (fun rv w1 hq => ?_)
  obtain ⟨x1, rfl, rfl, rx1, h⟩ := hq
  show Wat X 0 0 4 [(0, .ref hX7), (1, .int (i32 l1))] [.int (i32 x1)] [(hX7, .inr (6, [.ref aX7_above, .ref aX7_below, .ref hX3, .ref hX2, .ref hX1, .ref hX6, .ref hX0, .ref hX5])), (aX7_above, aI X.cI 8 s_above), (aX7_below, aI X.cI 8 s_below)]
  refine q_if_eq g (31) 35 rx1 (by decide) dX7_isProper_4 (fun b4 => ?_) (fun b4 => ?_)
  · replace h := h.1 b4
    refine q_lv (lv' := []) [] rfl ?_
    exact s_X7_isProper_35 g hR hX7 aX7_above aX7_below hX3 hX2 hX1 hX6 hX0 hX5 s_above s_below r_s_above r_s_below Q hF h
  replace h := h.2 b4
  refine q_aload_n g 0 0 rfl dX7_isProper_7 ?_
  refine q_get (C := RX7) (T := TX7) (N := 8) g 9 inX7 0 0 rfl rfl (by decide) wF_X7_9 rfl dX7_isProper_8 ?_
  refine q_iload_n g 1 1 rfl dX7_isProper_11 ?_
  obtain ⟨c12, h⟩ := h
  obtain ⟨e12, h⟩ := h
  refine q_iald g 1 rfl c12 e12 (by decide) dX7_isProper_12 ?_
  refine q_if_le g (22) 35 (r_s_above _) (by decide) dX7_isProper_13 (fun b13 => ?_) (fun b13 => ?_)
  · replace h := h.1 b13
    refine q_lv (lv' := []) [] rfl ?_
    exact s_X7_isProper_35 g hR hX7 aX7_above aX7_below hX3 hX2 hX1 hX6 hX0 hX5 s_above s_below r_s_above r_s_below Q hF h
  replace h := h.2 b13
  refine q_aload_n g 0 0 rfl dX7_isProper_16 ?_
  refine q_get (C := RX7) (T := TX7) (N := 8) g 9 inX7 0 0 rfl rfl (by decide) wF_X7_9 rfl dX7_isProper_17 ?_
  refine q_iload_n g 1 1 rfl dX7_isProper_20 ?_
  obtain ⟨c21, h⟩ := h
  obtain ⟨e21, h⟩ := h
  refine q_iald g 1 rfl c21 e21 (by decide) dX7_isProper_21 ?_
  refine q_aload_n g 0 0 rfl dX7_isProper_22 ?_
  refine q_get (C := RX7) (T := TX7) (N := 8) g 13 inX7 0 1 rfl rfl (by decide) wF_X7_13 rfl dX7_isProper_23 ?_
  refine q_iload_n g 1 1 rfl dX7_isProper_26 ?_
  obtain ⟨c27, h⟩ := h
  obtain ⟨e27, h⟩ := h
  refine q_iald g 2 rfl c27 e27 (by decide) dX7_isProper_27 ?_
  refine q_icmp_ge g (7) 35 (r_s_above _) (r_s_below _) (by decide) dX7_isProper_28 (fun b28 => ?_) (fun b28 => ?_)
  · replace h := h.1 b28
    refine q_lv (lv' := []) [] rfl ?_
    exact s_X7_isProper_35 g hR hX7 aX7_above aX7_below hX3 hX2 hX1 hX6 hX0 hX5 s_above s_below r_s_above r_s_below Q hF h
  replace h := h.2 b28
  refine q_iconst g (1) dX7_isProper_31 ?_
  refine q_goto g (4) 36 (by decide) dX7_isProper_32 ?_
  refine q_lv (lv' := []) [] rfl ?_
  exact s_X7_isProper_36 g hR hX7 aX7_above aX7_below hX3 hX2 hX1 hX6 hX0 hX5 s_above s_below r_s_above r_s_below Q hF 1 (r32_lit _ (by decide)) h
theorem dX7_divisor_0 : decode cX7_divisor 0 = .ok (.iload_n 1, 1) := by decide +kernel
theorem dX7_divisor_1 : decode cX7_divisor 1 = .ok (.invokestatic 64, 3) := by decide +kernel
theorem dX7_divisor_4 : decode cX7_divisor 4 = .ok (.ifCond .eq 8, 3) := by decide +kernel
theorem dX7_divisor_7 : decode cX7_divisor 7 = .ok (.iload_n 2, 1) := by decide +kernel
theorem dX7_divisor_8 : decode cX7_divisor 8 = .ok (.iconst (-1), 1) := by decide +kernel
theorem dX7_divisor_9 : decode cX7_divisor 9 = .ok (.if_icmp .ge 5, 3) := by decide +kernel
theorem dX7_divisor_12 : decode cX7_divisor 12 = .ok (.iconst (-1), 1) := by decide +kernel
theorem dX7_divisor_13 : decode cX7_divisor 13 = .ok (.ireturn, 1) := by decide +kernel
theorem dX7_divisor_14 : decode cX7_divisor 14 = .ok (.aload_n 0, 1) := by decide +kernel
theorem dX7_divisor_15 : decode cX7_divisor 15 = .ok (.iload_n 1, 1) := by decide +kernel
theorem dX7_divisor_16 : decode cX7_divisor 16 = .ok (.invokevirtual 91, 3) := by decide +kernel
theorem dX7_divisor_19 : decode cX7_divisor 19 = .ok (.ifCond .ne 6, 3) := by decide +kernel
theorem dX7_divisor_22 : decode cX7_divisor 22 = .ok (.bipush (-2), 2) := by decide +kernel
theorem dX7_divisor_24 : decode cX7_divisor 24 = .ok (.ireturn, 1) := by decide +kernel
theorem dX7_divisor_25 : decode cX7_divisor 25 = .ok (.aload_n 0, 1) := by decide +kernel
theorem dX7_divisor_26 : decode cX7_divisor 26 = .ok (.getfield 47, 3) := by decide +kernel
theorem dX7_divisor_29 : decode cX7_divisor 29 = .ok (.aload_n 0, 1) := by decide +kernel
theorem dX7_divisor_30 : decode cX7_divisor 30 = .ok (.getfield 9, 3) := by decide +kernel
theorem dX7_divisor_33 : decode cX7_divisor 33 = .ok (.iload_n 1, 1) := by decide +kernel
theorem dX7_divisor_34 : decode cX7_divisor 34 = .ok (.iaload, 1) := by decide +kernel
theorem dX7_divisor_35 : decode cX7_divisor 35 = .ok (.aload_n 0, 1) := by decide +kernel
theorem dX7_divisor_36 : decode cX7_divisor 36 = .ok (.getfield 13, 3) := by decide +kernel
theorem dX7_divisor_39 : decode cX7_divisor 39 = .ok (.iload_n 1, 1) := by decide +kernel
theorem dX7_divisor_40 : decode cX7_divisor 40 = .ok (.iaload, 1) := by decide +kernel
theorem dX7_divisor_41 : decode cX7_divisor 41 = .ok (.invokevirtual 149, 3) := by decide +kernel
theorem dX7_divisor_44 : decode cX7_divisor 44 = .ok (.istore_n 3, 1) := by decide +kernel
theorem dX7_divisor_45 : decode cX7_divisor 45 = .ok (.iload_n 3, 1) := by decide +kernel
theorem dX7_divisor_46 : decode cX7_divisor 46 = .ok (.ifCond .ge 5, 3) := by decide +kernel
theorem dX7_divisor_49 : decode cX7_divisor 49 = .ok (.iload_n 3, 1) := by decide +kernel
theorem dX7_divisor_50 : decode cX7_divisor 50 = .ok (.ireturn, 1) := by decide +kernel
theorem dX7_divisor_51 : decode cX7_divisor 51 = .ok (.iload_n 2, 1) := by decide +kernel
theorem dX7_divisor_52 : decode cX7_divisor 52 = .ok (.iconst (-1), 1) := by decide +kernel
theorem dX7_divisor_53 : decode cX7_divisor 53 = .ok (.if_icmp .ne 11, 3) := by decide +kernel
theorem dX7_divisor_56 : decode cX7_divisor 56 = .ok (.aload_n 0, 1) := by decide +kernel
theorem dX7_divisor_57 : decode cX7_divisor 57 = .ok (.getfield 47, 3) := by decide +kernel
theorem dX7_divisor_60 : decode cX7_divisor 60 = .ok (.invokevirtual 152, 3) := by decide +kernel
theorem dX7_divisor_63 : decode cX7_divisor 63 = .ok (.ireturn, 1) := by decide +kernel
theorem dX7_divisor_64 : decode cX7_divisor 64 = .ok (.iload_n 2, 1) := by decide +kernel
theorem dX7_divisor_65 : decode cX7_divisor 65 = .ok (.aload_n 0, 1) := by decide +kernel
theorem dX7_divisor_66 : decode cX7_divisor 66 = .ok (.getfield 47, 3) := by decide +kernel
theorem dX7_divisor_69 : decode cX7_divisor 69 = .ok (.invokevirtual 152, 3) := by decide +kernel
theorem dX7_divisor_72 : decode cX7_divisor 72 = .ok (.if_icmp .ge 14, 3) := by decide +kernel
theorem dX7_divisor_75 : decode cX7_divisor 75 = .ok (.aload_n 0, 1) := by decide +kernel
theorem dX7_divisor_76 : decode cX7_divisor 76 = .ok (.getfield 47, 3) := by decide +kernel
theorem dX7_divisor_79 : decode cX7_divisor 79 = .ok (.iload_n 2, 1) := by decide +kernel
theorem dX7_divisor_80 : decode cX7_divisor 80 = .ok (.invokevirtual 153, 3) := by decide +kernel
theorem dX7_divisor_83 : decode cX7_divisor 83 = .ok (.goto 5, 3) := by decide +kernel
theorem dX7_divisor_86 : decode cX7_divisor 86 = .ok (.bipush (-4), 2) := by decide +kernel
theorem dX7_divisor_88 : decode cX7_divisor 88 = .ok (.ireturn, 1) := by decide +kernel
abbrev po_X7_divisor (cI cJ : ClassId) (hX7 : Nat) (aX7_above : Nat) (aX7_below : Nat) (hX3 : Nat) (hX2 : Nat) (hX1 : Nat) (hX6 : Nat) (hX0 : Nat) (hX5 : Nat) (aX0_divisors : Nat) (aX0_reachable : Nat) (aX0_fewest : Nat) (aX0_takes : Nat) (aX0_chosen : Nat) (s_above : Int → Int) (s_below : Int → Int) (Q : Int → (Int → Int) → (Int → Int) → (Int → Int) → (Int → Int) → (Int → Int) → Int → Int → Int → Int → Int → Prop) : Option Value → va_W → Prop := fun rv w1 => ∃ (r0 : Int) (d_divisors : Int → Int) (d_reachable : Int → Int) (d_fewest : Int → Int) (d_takes : Int → Int) (d_chosen : Int → Int) (d_divisorsSize : Int) (d_size : Int) (d_askedP : Int) (d_askedQ : Int) (d_factor : Int), rv = some (.int (i32 r0)) ∧ w1 = [(hX7, .inr (6, [.ref aX7_above, .ref aX7_below, .ref hX3, .ref hX2, .ref hX1, .ref hX6, .ref hX0, .ref hX5])), (hX0, .inr (0, [.ref aX0_divisors, .ref aX0_reachable, .ref aX0_fewest, .ref aX0_takes, .ref aX0_chosen, .int (i32 d_divisorsSize), .int (i32 d_size), .int (i32 d_askedP), .int (i32 d_askedQ), .int (i32 d_factor)])), (aX7_above, aI cI 8 s_above), (aX7_below, aI cI 8 s_below), (aX0_divisors, aI cI 48 d_divisors), (aX0_reachable, aL cJ 79 d_reachable), (aX0_fewest, aI cI 5001 d_fewest), (aX0_takes, aL cJ 5001 d_takes), (aX0_chosen, aI cI 48 d_chosen)] ∧ r32 r0 ∧ rr32 d_divisors ∧ rr64 d_reachable ∧ rr32 d_fewest ∧ rr64 d_takes ∧ rr32 d_chosen ∧ r32 d_divisorsSize ∧ r32 d_size ∧ r32 d_askedP ∧ r32 d_askedQ ∧ r32 d_factor ∧ Q r0 d_divisors d_reachable d_fewest d_takes d_chosen d_divisorsSize d_size d_askedP d_askedQ d_factor
def wp_X7_divisor_12 (Q : Int → (Int → Int) → (Int → Int) → (Int → Int) → (Int → Int) → (Int → Int) → Int → Int → Int → Int → Int → Prop) (s_above : Int → Int) (s_below : Int → Int) (d_divisors : Int → Int) (d_reachable : Int → Int) (d_fewest : Int → Int) (d_takes : Int → Int) (d_chosen : Int → Int) (d_divisorsSize : Int) (d_size : Int) (d_askedP : Int) (d_askedQ : Int) (d_factor : Int) : Prop := Q (-1) d_divisors d_reachable d_fewest d_takes d_chosen d_divisorsSize d_size d_askedP d_askedQ d_factor
set_option maxHeartbeats 4000000 in
set_option maxRecDepth 100000 in
theorem s_X7_divisor_12 {X : Cx} (g : Gd X cX7_divisor RX7 (some .int) 4) (hR : X.R = rmL 5 0 0) (hX7 : Nat) (aX7_above : Nat) (aX7_below : Nat) (hX3 : Nat) (hX2 : Nat) (hX1 : Nat) (hX6 : Nat) (hX0 : Nat) (hX5 : Nat) (aX0_divisors : Nat) (aX0_reachable : Nat) (aX0_fewest : Nat) (aX0_takes : Nat) (aX0_chosen : Nat) (s_above : Int → Int) (s_below : Int → Int) (r_s_above : rr32 s_above) (r_s_below : rr32 s_below) (Q : Int → (Int → Int) → (Int → Int) → (Int → Int) → (Int → Int) → (Int → Int) → Int → Int → Int → Int → Int → Prop) (hF : FQ X 0 0 (po_X7_divisor X.cI X.cJ hX7 aX7_above aX7_below hX3 hX2 hX1 hX6 hX0 hX5 aX0_divisors aX0_reachable aX0_fewest aX0_takes aX0_chosen s_above s_below Q)) : ∀ (d_divisors : Int → Int) (d_reachable : Int → Int) (d_fewest : Int → Int) (d_takes : Int → Int) (d_chosen : Int → Int) (d_divisorsSize : Int) (d_size : Int) (d_askedP : Int) (d_askedQ : Int) (d_factor : Int), rr32 d_divisors → rr64 d_reachable → rr32 d_fewest → rr64 d_takes → rr32 d_chosen → r32 d_divisorsSize → r32 d_size → r32 d_askedP → r32 d_askedQ → r32 d_factor → wp_X7_divisor_12 Q s_above s_below d_divisors d_reachable d_fewest d_takes d_chosen d_divisorsSize d_size d_askedP d_askedQ d_factor → Wat X 0 0 12 [] [] [(hX7, .inr (6, [.ref aX7_above, .ref aX7_below, .ref hX3, .ref hX2, .ref hX1, .ref hX6, .ref hX0, .ref hX5])), (hX0, .inr (0, [.ref aX0_divisors, .ref aX0_reachable, .ref aX0_fewest, .ref aX0_takes, .ref aX0_chosen, .int (i32 d_divisorsSize), .int (i32 d_size), .int (i32 d_askedP), .int (i32 d_askedQ), .int (i32 d_factor)])), (aX7_above, aI X.cI 8 s_above), (aX7_below, aI X.cI 8 s_below), (aX0_divisors, aI X.cI 48 d_divisors), (aX0_reachable, aL X.cJ 79 d_reachable), (aX0_fewest, aI X.cI 5001 d_fewest), (aX0_takes, aL X.cJ 5001 d_takes), (aX0_chosen, aI X.cI 48 d_chosen)] := by
  intro d_divisors d_reachable d_fewest d_takes d_chosen d_divisorsSize d_size d_askedP d_askedQ d_factor r_d_divisors r_d_reachable r_d_fewest r_d_takes r_d_chosen r_d_divisorsSize r_d_size r_d_askedP r_d_askedQ r_d_factor h
  rw [wp_X7_divisor_12] at h
  refine q_iconst g (-1) dX7_divisor_12 ?_
  exact q_iret g hF ⟨(-1), d_divisors, d_reachable, d_fewest, d_takes, d_chosen, d_divisorsSize, d_size, d_askedP, d_askedQ, d_factor, rfl, rfl, (r32_lit _ (by decide)), r_d_divisors, r_d_reachable, r_d_fewest, r_d_takes, r_d_chosen, r_d_divisorsSize, r_d_size, r_d_askedP, r_d_askedQ, r_d_factor, h⟩ dX7_divisor_13
def wp_X7_divisor_88 (Q : Int → (Int → Int) → (Int → Int) → (Int → Int) → (Int → Int) → (Int → Int) → Int → Int → Int → Int → Int → Prop) (s_above : Int → Int) (s_below : Int → Int) (d_divisors : Int → Int) (d_reachable : Int → Int) (d_fewest : Int → Int) (d_takes : Int → Int) (d_chosen : Int → Int) (d_divisorsSize : Int) (d_size : Int) (d_askedP : Int) (d_askedQ : Int) (d_factor : Int) (k0 : Int) : Prop := Q k0 d_divisors d_reachable d_fewest d_takes d_chosen d_divisorsSize d_size d_askedP d_askedQ d_factor
set_option maxHeartbeats 4000000 in
set_option maxRecDepth 100000 in
theorem s_X7_divisor_88 {X : Cx} (g : Gd X cX7_divisor RX7 (some .int) 4) (hR : X.R = rmL 5 0 0) (hX7 : Nat) (aX7_above : Nat) (aX7_below : Nat) (hX3 : Nat) (hX2 : Nat) (hX1 : Nat) (hX6 : Nat) (hX0 : Nat) (hX5 : Nat) (aX0_divisors : Nat) (aX0_reachable : Nat) (aX0_fewest : Nat) (aX0_takes : Nat) (aX0_chosen : Nat) (s_above : Int → Int) (s_below : Int → Int) (r_s_above : rr32 s_above) (r_s_below : rr32 s_below) (Q : Int → (Int → Int) → (Int → Int) → (Int → Int) → (Int → Int) → (Int → Int) → Int → Int → Int → Int → Int → Prop) (hF : FQ X 0 0 (po_X7_divisor X.cI X.cJ hX7 aX7_above aX7_below hX3 hX2 hX1 hX6 hX0 hX5 aX0_divisors aX0_reachable aX0_fewest aX0_takes aX0_chosen s_above s_below Q)) : ∀ (d_divisors : Int → Int) (d_reachable : Int → Int) (d_fewest : Int → Int) (d_takes : Int → Int) (d_chosen : Int → Int) (d_divisorsSize : Int) (d_size : Int) (d_askedP : Int) (d_askedQ : Int) (d_factor : Int) (k0 : Int), rr32 d_divisors → rr64 d_reachable → rr32 d_fewest → rr64 d_takes → rr32 d_chosen → r32 d_divisorsSize → r32 d_size → r32 d_askedP → r32 d_askedQ → r32 d_factor → r32 k0 → wp_X7_divisor_88 Q s_above s_below d_divisors d_reachable d_fewest d_takes d_chosen d_divisorsSize d_size d_askedP d_askedQ d_factor k0 → Wat X 0 0 88 [] [.int (i32 k0)] [(hX7, .inr (6, [.ref aX7_above, .ref aX7_below, .ref hX3, .ref hX2, .ref hX1, .ref hX6, .ref hX0, .ref hX5])), (hX0, .inr (0, [.ref aX0_divisors, .ref aX0_reachable, .ref aX0_fewest, .ref aX0_takes, .ref aX0_chosen, .int (i32 d_divisorsSize), .int (i32 d_size), .int (i32 d_askedP), .int (i32 d_askedQ), .int (i32 d_factor)])), (aX7_above, aI X.cI 8 s_above), (aX7_below, aI X.cI 8 s_below), (aX0_divisors, aI X.cI 48 d_divisors), (aX0_reachable, aL X.cJ 79 d_reachable), (aX0_fewest, aI X.cI 5001 d_fewest), (aX0_takes, aL X.cJ 5001 d_takes), (aX0_chosen, aI X.cI 48 d_chosen)] := by
  intro d_divisors d_reachable d_fewest d_takes d_chosen d_divisorsSize d_size d_askedP d_askedQ d_factor k0 r_d_divisors r_d_reachable r_d_fewest r_d_takes r_d_chosen r_d_divisorsSize r_d_size r_d_askedP r_d_askedQ r_d_factor r_k0 h
  rw [wp_X7_divisor_88] at h
  exact q_iret g hF ⟨k0, d_divisors, d_reachable, d_fewest, d_takes, d_chosen, d_divisorsSize, d_size, d_askedP, d_askedQ, d_factor, rfl, rfl, r_k0, r_d_divisors, r_d_reachable, r_d_fewest, r_d_takes, r_d_chosen, r_d_divisorsSize, r_d_size, r_d_askedP, r_d_askedQ, r_d_factor, h⟩ dX7_divisor_88
def wp_X7_divisor (Q : Int → (Int → Int) → (Int → Int) → (Int → Int) → (Int → Int) → (Int → Int) → Int → Int → Int → Int → Int → Prop) (s_above : Int → Int) (s_below : Int → Int) (d_divisors : Int → Int) (d_reachable : Int → Int) (d_fewest : Int → Int) (d_takes : Int → Int) (d_chosen : Int → Int) (d_divisorsSize : Int) (d_size : Int) (d_askedP : Int) (d_askedQ : Int) (d_factor : Int) (l1 : Int) (l2 : Int) : Prop := wp_X7_isRegister (fun (x1 : Int) => ((x1 = 0 → wp_X7_divisor_12 Q s_above s_below d_divisors d_reachable d_fewest d_takes d_chosen d_divisorsSize d_size d_askedP d_askedQ d_factor) ∧
  (¬ (x1 = 0) → (((-1) ≤ l2 → wp_X7_isProper (fun (x16 : Int) => ((¬ x16 = 0 → (0 ≤ l1 ∧ l1 < 8 ∧ 0 ≤ l1 ∧ l1 < 8 ∧ wp_X0_factorFor (fun (x41 : Int) (d_divisors_41 : Int → Int) (d_reachable_41 : Int → Int) (d_fewest_41 : Int → Int) (d_takes_41 : Int → Int) (d_chosen_41 : Int → Int) (d_divisorsSize_41 : Int) (d_size_41 : Int) (d_askedP_41 : Int) (d_askedQ_41 : Int) (d_factor_41 : Int) => ((0 ≤ x41 → ((¬ l2 = (-1) → wp_X0_size (fun (x69 : Int) => ((x69 ≤ l2 → wp_X7_divisor_88 Q s_above s_below d_divisors_41 d_reachable_41 d_fewest_41 d_takes_41 d_chosen_41 d_divisorsSize_41 d_size_41 d_askedP_41 d_askedQ_41 d_factor_41 (-4)) ∧
  (¬ (x69 ≤ l2) → wp_X0_at (fun (x80 : Int) => wp_X7_divisor_88 Q s_above s_below d_divisors_41 d_reachable_41 d_fewest_41 d_takes_41 d_chosen_41 d_divisorsSize_41 d_size_41 d_askedP_41 d_askedQ_41 d_factor_41 x80) d_chosen_41 d_size_41 l2))) d_size_41) ∧
  (l2 = (-1) → wp_X0_size (fun (x60 : Int) => Q x60 d_divisors_41 d_reachable_41 d_fewest_41 d_takes_41 d_chosen_41 d_divisorsSize_41 d_size_41 d_askedP_41 d_askedQ_41 d_factor_41) d_size_41))) ∧
  (¬ (0 ≤ x41) → Q x41 d_divisors_41 d_reachable_41 d_fewest_41 d_takes_41 d_chosen_41 d_divisorsSize_41 d_size_41 d_askedP_41 d_askedQ_41 d_factor_41))) d_divisors d_reachable d_fewest d_takes d_chosen d_divisorsSize d_size d_askedP d_askedQ d_factor (s_above l1) (s_below l1))) ∧
  (x16 = 0 → Q (-2) d_divisors d_reachable d_fewest d_takes d_chosen d_divisorsSize d_size d_askedP d_askedQ d_factor))) s_above s_below l1) ∧
  (¬ ((-1) ≤ l2) → wp_X7_divisor_12 Q s_above s_below d_divisors d_reachable d_fewest d_takes d_chosen d_divisorsSize d_size d_askedP d_askedQ d_factor))))) l1
set_option maxHeartbeats 4000000 in
set_option maxRecDepth 100000 in
theorem c_X7_divisor (l : Launch) (D : va_G) (cI cJ : ClassId) (zt : Nat) (hX7 : Nat) (aX7_above : Nat) (aX7_below : Nat) (hX3 : Nat) (hX2 : Nat) (hX1 : Nat) (hX6 : Nat) (hX0 : Nat) (hX5 : Nat) (aX0_divisors : Nat) (aX0_reachable : Nat) (aX0_fewest : Nat) (aX0_takes : Nat) (aX0_chosen : Nat) (d_divisorsSize : Int) (d_size : Int) (d_askedP : Int) (d_askedQ : Int) (d_factor : Int) (s_above : Int → Int) (s_below : Int → Int) (d_divisors : Int → Int) (d_reachable : Int → Int) (d_fewest : Int → Int) (d_takes : Int → Int) (d_chosen : Int → Int) (l1 : Int) (l2 : Int) (Q : Int → (Int → Int) → (Int → Int) → (Int → Int) → (Int → Int) → (Int → Int) → Int → Int → Int → Int → Int → Prop) (r_s_above : rr32 s_above) (r_s_below : rr32 s_below) (r_d_divisors : rr32 d_divisors) (r_d_reachable : rr64 d_reachable) (r_d_fewest : rr32 d_fewest) (r_d_takes : rr64 d_takes) (r_d_chosen : rr32 d_chosen) (r_d_divisorsSize : r32 d_divisorsSize) (r_d_size : r32 d_size) (r_d_askedP : r32 d_askedP) (r_d_askedQ : r32 d_askedQ) (r_d_factor : r32 d_factor) (r_l1 : r32 l1) (r_l2 : r32 l2) (h : wp_X7_divisor Q s_above s_below d_divisors d_reachable d_fewest d_takes d_chosen d_divisorsSize d_size d_askedP d_askedQ d_factor l1 l2) : Ct l D cI cJ zt yX7_divisor cX7_divisor 4 (some .int) 5 0 0 [.ref hX7, .int (i32 l1), .int (i32 l2)] [(hX7, .inr (6, [.ref aX7_above, .ref aX7_below, .ref hX3, .ref hX2, .ref hX1, .ref hX6, .ref hX0, .ref hX5])), (hX0, .inr (0, [.ref aX0_divisors, .ref aX0_reachable, .ref aX0_fewest, .ref aX0_takes, .ref aX0_chosen, .int (i32 d_divisorsSize), .int (i32 d_size), .int (i32 d_askedP), .int (i32 d_askedQ), .int (i32 d_factor)])), (aX7_above, aI cI 8 s_above), (aX7_below, aI cI 8 s_below), (aX0_divisors, aI cI 48 d_divisors), (aX0_reachable, aL cJ 79 d_reachable), (aX0_fewest, aI cI 5001 d_fewest), (aX0_takes, aL cJ 5001 d_takes), (aX0_chosen, aI cI 48 d_chosen)] (po_X7_divisor cI cJ hX7 aX7_above aX7_below hX3 hX2 hX1 hX6 hX0 hX5 aX0_divisors aX0_reachable aX0_fewest aX0_takes aX0_chosen s_above s_below Q) := by
  refine ct_of (by decide +kernel) (Nat.le_of_ble_eq_true rfl) (fun X hl hDD hcI hcJ hzt hR hF hnm g => ?_)
  subst hl; subst hDD; subst hcI; subst hcJ; subst hzt
  show Wat X 0 0 0 [(0, .ref hX7), (1, .int (i32 l1)), (2, .int (i32 l2))] [] [(hX7, .inr (6, [.ref aX7_above, .ref aX7_below, .ref hX3, .ref hX2, .ref hX1, .ref hX6, .ref hX0, .ref hX5])), (hX0, .inr (0, [.ref aX0_divisors, .ref aX0_reachable, .ref aX0_fewest, .ref aX0_takes, .ref aX0_chosen, .int (i32 d_divisorsSize), .int (i32 d_size), .int (i32 d_askedP), .int (i32 d_askedQ), .int (i32 d_factor)])), (aX7_above, aI X.cI 8 s_above), (aX7_below, aI X.cI 8 s_below), (aX0_divisors, aI X.cI 48 d_divisors), (aX0_reachable, aL X.cJ 79 d_reachable), (aX0_fewest, aI X.cI 5001 d_fewest), (aX0_takes, aL X.cJ 5001 d_takes), (aX0_chosen, aI X.cI 48 d_chosen)]
  replace g : Gd X cX7_divisor RX7 (some .int) 4 := g
  rw [wp_X7_divisor] at h
  refine q_iload_n g 1 1 rfl dX7_divisor_0 ?_
  refine q_callS (lev := 1) (mc := 0) (ms := 0) (As := [.int (i32 l1)]) g 64 (c_X7_isRegister X.l X.D X.cI X.cJ X.zt l1 _ r_l1 h) (wr := [(hX7, .inr (6, [.ref aX7_above, .ref aX7_below, .ref hX3, .ref hX2, .ref hX1, .ref hX6, .ref hX0, .ref hX5])), (hX0, .inr (0, [.ref aX0_divisors, .ref aX0_reachable, .ref aX0_fewest, .ref aX0_takes, .ref aX0_chosen, .int (i32 d_divisorsSize), .int (i32 d_size), .int (i32 d_askedP), .int (i32 d_askedQ), .int (i32 d_factor)])), (aX7_above, aI X.cI 8 s_above), (aX7_below, aI X.cI 8 s_below), (aX0_divisors, aI X.cI 48 d_divisors), (aX0_reachable, aL X.cJ 79 d_reachable), (aX0_fewest, aI X.cI 5001 d_fewest), (aX0_takes, aL X.cJ 5001 d_takes), (aX0_chosen, aI X.cI 48 d_chosen)]) [] [0, 1, 2, 3, 4, 5, 6, 7, 8] rfl rfl rfl (by decide) (by decide) (by decide) wM_X7_64 wT_X7_isRegister wZ_X7 wC_X7_isRegister 1 rfl (by decide +kernel) (by rw [hR]; exact ⟨by show 1 + 1 ≤ 5; omega, by show 8 + (1 + 11) + 100 * 1 ≤ 100 * 5; omega⟩) (by rw [hR]; exact ⟨Nat.le_refl _, Nat.le_refl _⟩) (Nat.le_of_ble_eq_true rfl) rfl dX7_divisor_1 (fun rv w1 hq => ?_)
  obtain ⟨x1, rfl, rfl, rx1, h⟩ := hq
  show Wat X 0 0 4 [(0, .ref hX7), (1, .int (i32 l1)), (2, .int (i32 l2))] [.int (i32 x1)] [(hX7, .inr (6, [.ref aX7_above, .ref aX7_below, .ref hX3, .ref hX2, .ref hX1, .ref hX6, .ref hX0, .ref hX5])), (hX0, .inr (0, [.ref aX0_divisors, .ref aX0_reachable, .ref aX0_fewest, .ref aX0_takes, .ref aX0_chosen, .int (i32 d_divisorsSize), .int (i32 d_size), .int (i32 d_askedP), .int (i32 d_askedQ), .int (i32 d_factor)])), (aX7_above, aI X.cI 8 s_above), (aX7_below, aI X.cI 8 s_below), (aX0_divisors, aI X.cI 48 d_divisors), (aX0_reachable, aL X.cJ 79 d_reachable), (aX0_fewest, aI X.cI 5001 d_fewest), (aX0_takes, aL X.cJ 5001 d_takes), (aX0_chosen, aI X.cI 48 d_chosen)]
  refine q_if_eq g (8) 12 rx1 (by decide) dX7_divisor_4 (fun b4 => ?_) (fun b4 => ?_)
  · replace h := h.1 b4
    refine q_lv (lv' := []) [] rfl ?_
    exact s_X7_divisor_12 g hR hX7 aX7_above aX7_below hX3 hX2 hX1 hX6 hX0 hX5 aX0_divisors aX0_reachable aX0_fewest aX0_takes aX0_chosen s_above s_below r_s_above r_s_below Q hF d_divisors d_reachable d_fewest d_takes d_chosen d_divisorsSize d_size d_askedP d_askedQ d_factor r_d_divisors r_d_reachable r_d_fewest r_d_takes r_d_chosen r_d_divisorsSize r_d_size r_d_askedP r_d_askedQ r_d_factor h
  replace h := h.2 b4
  refine q_iload_n g 2 2 rfl dX7_divisor_7 ?_
  refine q_iconst g (-1) dX7_divisor_8 ?_
  refine q_icmp_ge g (5) 14 r_l2 (r32_lit _ (by decide)) (by decide) dX7_divisor_9 (fun b9 => ?_) (fun b9 => ?_)
  · replace h := h.1 b9
    refine q_aload_n g 0 0 rfl dX7_divisor_14 ?_
    refine q_iload_n g 1 1 rfl dX7_divisor_15 ?_
    refine q_callV (lev := 2) (mc := 0) (ms := 0) g 91 (c_X7_isProper X.l X.D X.cI X.cJ X.zt hX7 aX7_above aX7_below hX3 hX2 hX1 hX6 hX0 hX5 s_above s_below l1 _ r_s_above r_s_below r_l1 h) (wr := [(hX0, .inr (0, [.ref aX0_divisors, .ref aX0_reachable, .ref aX0_fewest, .ref aX0_takes, .ref aX0_chosen, .int (i32 d_divisorsSize), .int (i32 d_size), .int (i32 d_askedP), .int (i32 d_askedQ), .int (i32 d_factor)])), (aX0_divisors, aI X.cI 48 d_divisors), (aX0_reachable, aL X.cJ 79 d_reachable), (aX0_fewest, aI X.cI 5001 d_fewest), (aX0_takes, aL X.cJ 5001 d_takes), (aX0_chosen, aI X.cI 48 d_chosen)]) [0, 2, 3] [1, 4, 5, 6, 7, 8] rfl rfl rfl (by decide) (by decide) (by decide) (ci := 6) rfl rfl rfl wM_X7_91 wI_X7_isProper wS_X7_isProper wZ_X7 wC_X7_isProper 1 rfl (by decide +kernel) (by rw [hR]; exact ⟨by show 2 + 1 ≤ 5; omega, by show 8 + (2 + 11) + 100 * 2 ≤ 100 * 5; omega⟩) (by rw [hR]; exact ⟨Nat.le_refl _, Nat.le_refl _⟩) (Nat.le_of_ble_eq_true rfl) rfl dX7_divisor_16 (fun rv w1 hq => ?_)
    obtain ⟨x16, rfl, rfl, rx16, h⟩ := hq
    refine q_ws (ws' := [(hX7, .inr (6, [.ref aX7_above, .ref aX7_below, .ref hX3, .ref hX2, .ref hX1, .ref hX6, .ref hX0, .ref hX5])), (hX0, .inr (0, [.ref aX0_divisors, .ref aX0_reachable, .ref aX0_fewest, .ref aX0_takes, .ref aX0_chosen, .int (i32 d_divisorsSize), .int (i32 d_size), .int (i32 d_askedP), .int (i32 d_askedQ), .int (i32 d_factor)])), (aX7_above, aI X.cI 8 s_above), (aX7_below, aI X.cI 8 s_below), (aX0_divisors, aI X.cI 48 d_divisors), (aX0_reachable, aL X.cJ 79 d_reachable), (aX0_fewest, aI X.cI 5001 d_fewest), (aX0_takes, aL X.cJ 5001 d_takes), (aX0_chosen, aI X.cI 48 d_chosen)]) [6, 0, 7, 8, 1, 2, 3, 4, 5] (by decide) rfl rfl ?_
    show Wat X 0 0 19 [(0, .ref hX7), (1, .int (i32 l1)), (2, .int (i32 l2))] [.int (i32 x16)] [(hX7, .inr (6, [.ref aX7_above, .ref aX7_below, .ref hX3, .ref hX2, .ref hX1, .ref hX6, .ref hX0, .ref hX5])), (hX0, .inr (0, [.ref aX0_divisors, .ref aX0_reachable, .ref aX0_fewest, .ref aX0_takes, .ref aX0_chosen, .int (i32 d_divisorsSize), .int (i32 d_size), .int (i32 d_askedP), .int (i32 d_askedQ), .int (i32 d_factor)])), (aX7_above, aI X.cI 8 s_above), (aX7_below, aI X.cI 8 s_below), (aX0_divisors, aI X.cI 48 d_divisors), (aX0_reachable, aL X.cJ 79 d_reachable), (aX0_fewest, aI X.cI 5001 d_fewest), (aX0_takes, aL X.cJ 5001 d_takes), (aX0_chosen, aI X.cI 48 d_chosen)]
    refine q_if_ne g (6) 25 rx16 (by decide) dX7_divisor_19 (fun b19 => ?_) (fun b19 => ?_)
    · replace h := h.1 b19
      refine q_aload_n g 0 0 rfl dX7_divisor_25 ?_
      refine q_get (C := RX7) (T := TX7) (N := 8) g 47 inX7 0 6 rfl rfl (by decide) wF_X7_47 rfl dX7_divisor_26 ?_
      refine q_aload_n g 0 0 rfl dX7_divisor_29 ?_
      refine q_get (C := RX7) (T := TX7) (N := 8) g 9 inX7 0 0 rfl rfl (by decide) wF_X7_9 rfl dX7_divisor_30 ?_
      refine q_iload_n g 1 1 rfl dX7_divisor_33 ?_
      obtain ⟨c34, h⟩ := h
      obtain ⟨e34, h⟩ := h
      refine q_iald g 2 rfl c34 e34 (by decide) dX7_divisor_34 ?_
      refine q_aload_n g 0 0 rfl dX7_divisor_35 ?_
      refine q_get (C := RX7) (T := TX7) (N := 8) g 13 inX7 0 1 rfl rfl (by decide) wF_X7_13 rfl dX7_divisor_36 ?_
      refine q_iload_n g 1 1 rfl dX7_divisor_39 ?_
      obtain ⟨c40, h⟩ := h
      obtain ⟨e40, h⟩ := h
      refine q_iald g 3 rfl c40 e40 (by decide) dX7_divisor_40 ?_
      refine q_callV (lev := 4) (mc := 0) (ms := 0) g 149 (c_X0_factorFor X.l X.D X.cI X.cJ X.zt hX0 aX0_divisors aX0_reachable aX0_fewest aX0_takes aX0_chosen d_divisorsSize d_size d_askedP d_askedQ d_factor d_divisors d_reachable d_fewest d_takes d_chosen (s_above l1) (s_below l1) _ r_d_divisors r_d_reachable r_d_fewest r_d_takes r_d_chosen r_d_divisorsSize r_d_size r_d_askedP r_d_askedQ r_d_factor (r_s_above _) (r_s_below _) h) (wr := [(hX7, .inr (6, [.ref aX7_above, .ref aX7_below, .ref hX3, .ref hX2, .ref hX1, .ref hX6, .ref hX0, .ref hX5])), (aX7_above, aI X.cI 8 s_above), (aX7_below, aI X.cI 8 s_below)]) [1, 4, 5, 6, 7, 8] [0, 2, 3] rfl rfl rfl (by decide) (by decide) (by decide) (ci := 0) rfl rfl rfl wM_X7_149 wI_X0_factorFor wS_X0_factorFor wZ_X0 wC_X0_factorFor 2 rfl (by decide +kernel) (by rw [hR]; exact ⟨by show 4 + 1 ≤ 5; omega, by show 8 + (3 + 11) + 100 * 4 ≤ 100 * 5; omega⟩) (by rw [hR]; exact ⟨Nat.le_refl _, Nat.le_refl _⟩) (Nat.le_of_ble_eq_true rfl) rfl dX7_divisor_41 (fun rv w1 hq => ?_)
      obtain ⟨x41, d_divisors_41, d_reachable_41, d_fewest_41, d_takes_41, d_chosen_41, d_divisorsSize_41, d_size_41, d_askedP_41, d_askedQ_41, d_factor_41, rfl, rfl, rx41, rd_divisors_41, rd_reachable_41, rd_fewest_41, rd_takes_41, rd_chosen_41, rd_divisorsSize_41, rd_size_41, rd_askedP_41, rd_askedQ_41, rd_factor_41, h⟩ := hq
      refine q_ws (ws' := [(hX7, .inr (6, [.ref aX7_above, .ref aX7_below, .ref hX3, .ref hX2, .ref hX1, .ref hX6, .ref hX0, .ref hX5])), (hX0, .inr (0, [.ref aX0_divisors, .ref aX0_reachable, .ref aX0_fewest, .ref aX0_takes, .ref aX0_chosen, .int (i32 d_divisorsSize_41), .int (i32 d_size_41), .int (i32 d_askedP_41), .int (i32 d_askedQ_41), .int (i32 d_factor_41)])), (aX7_above, aI X.cI 8 s_above), (aX7_below, aI X.cI 8 s_below), (aX0_divisors, aI X.cI 48 d_divisors_41), (aX0_reachable, aL X.cJ 79 d_reachable_41), (aX0_fewest, aI X.cI 5001 d_fewest_41), (aX0_takes, aL X.cJ 5001 d_takes_41), (aX0_chosen, aI X.cI 48 d_chosen_41)]) [0, 3, 1, 2, 4, 5, 6, 7, 8] (by decide) rfl rfl ?_
      show Wat X 0 0 44 [(0, .ref hX7), (1, .int (i32 l1)), (2, .int (i32 l2))] [.int (i32 x41)] [(hX7, .inr (6, [.ref aX7_above, .ref aX7_below, .ref hX3, .ref hX2, .ref hX1, .ref hX6, .ref hX0, .ref hX5])), (hX0, .inr (0, [.ref aX0_divisors, .ref aX0_reachable, .ref aX0_fewest, .ref aX0_takes, .ref aX0_chosen, .int (i32 d_divisorsSize_41), .int (i32 d_size_41), .int (i32 d_askedP_41), .int (i32 d_askedQ_41), .int (i32 d_factor_41)])), (aX7_above, aI X.cI 8 s_above), (aX7_below, aI X.cI 8 s_below), (aX0_divisors, aI X.cI 48 d_divisors_41), (aX0_reachable, aL X.cJ 79 d_reachable_41), (aX0_fewest, aI X.cI 5001 d_fewest_41), (aX0_takes, aL X.cJ 5001 d_takes_41), (aX0_chosen, aI X.cI 48 d_chosen_41)]
      refine q_istore_n (lv' := [(3, .int (i32 x41)), (0, .ref hX7), (1, .int (i32 l1)), (2, .int (i32 l2))]) g 3 3 rfl (by decide) rfl dX7_divisor_44 ?_
      refine q_iload_n g 3 0 rfl dX7_divisor_45 ?_
      refine q_if_ge g (5) 51 rx41 (by decide) dX7_divisor_46 (fun b46 => ?_) (fun b46 => ?_)
      · replace h := h.1 b46
        refine q_iload_n g 2 3 rfl dX7_divisor_51 ?_
        refine q_iconst g (-1) dX7_divisor_52 ?_
        refine q_icmp_ne g (11) 64 r_l2 (r32_lit _ (by decide)) (by decide) dX7_divisor_53 (fun b53 => ?_) (fun b53 => ?_)
        · replace h := h.1 b53
          refine q_iload_n g 2 3 rfl dX7_divisor_64 ?_
          refine q_aload_n g 0 1 rfl dX7_divisor_65 ?_
          refine q_get (C := RX7) (T := TX7) (N := 8) g 47 inX7 0 6 rfl rfl (by decide) wF_X7_47 rfl dX7_divisor_66 ?_
          refine q_callV (lev := 1) (mc := 0) (ms := 0) g 152 (c_X0_size X.l X.D X.cI X.cJ X.zt hX0 aX0_divisors aX0_reachable aX0_fewest aX0_takes aX0_chosen d_divisorsSize_41 d_size_41 d_askedP_41 d_askedQ_41 d_factor_41 _ rd_size_41 h) (wr := [(hX7, .inr (6, [.ref aX7_above, .ref aX7_below, .ref hX3, .ref hX2, .ref hX1, .ref hX6, .ref hX0, .ref hX5])), (aX7_above, aI X.cI 8 s_above), (aX7_below, aI X.cI 8 s_below), (aX0_divisors, aI X.cI 48 d_divisors_41), (aX0_reachable, aL X.cJ 79 d_reachable_41), (aX0_fewest, aI X.cI 5001 d_fewest_41), (aX0_takes, aL X.cJ 5001 d_takes_41), (aX0_chosen, aI X.cI 48 d_chosen_41)]) [1] [0, 2, 3, 4, 5, 6, 7, 8] rfl rfl rfl (by decide) (by decide) (by decide) (ci := 0) rfl rfl rfl wM_X7_152 wI_X0_size wS_X0_size wZ_X0 wC_X0_size 0 rfl (by decide +kernel) (by rw [hR]; exact ⟨by show 1 + 1 ≤ 5; omega, by show 8 + (1 + 11) + 100 * 1 ≤ 100 * 5; omega⟩) (by rw [hR]; exact ⟨Nat.le_refl _, Nat.le_refl _⟩) (Nat.le_of_ble_eq_true rfl) rfl dX7_divisor_69 (fun rv w1 hq => ?_)
          obtain ⟨x69, rfl, rfl, rx69, h⟩ := hq
          refine q_ws (ws' := [(hX7, .inr (6, [.ref aX7_above, .ref aX7_below, .ref hX3, .ref hX2, .ref hX1, .ref hX6, .ref hX0, .ref hX5])), (hX0, .inr (0, [.ref aX0_divisors, .ref aX0_reachable, .ref aX0_fewest, .ref aX0_takes, .ref aX0_chosen, .int (i32 d_divisorsSize_41), .int (i32 d_size_41), .int (i32 d_askedP_41), .int (i32 d_askedQ_41), .int (i32 d_factor_41)])), (aX7_above, aI X.cI 8 s_above), (aX7_below, aI X.cI 8 s_below), (aX0_divisors, aI X.cI 48 d_divisors_41), (aX0_reachable, aL X.cJ 79 d_reachable_41), (aX0_fewest, aI X.cI 5001 d_fewest_41), (aX0_takes, aL X.cJ 5001 d_takes_41), (aX0_chosen, aI X.cI 48 d_chosen_41)]) [0, 8, 1, 2, 3, 4, 5, 6, 7] (by decide) rfl rfl ?_
          show Wat X 0 0 72 [(3, .int (i32 x41)), (0, .ref hX7), (1, .int (i32 l1)), (2, .int (i32 l2))] [.int (i32 x69), .int (i32 l2)] [(hX7, .inr (6, [.ref aX7_above, .ref aX7_below, .ref hX3, .ref hX2, .ref hX1, .ref hX6, .ref hX0, .ref hX5])), (hX0, .inr (0, [.ref aX0_divisors, .ref aX0_reachable, .ref aX0_fewest, .ref aX0_takes, .ref aX0_chosen, .int (i32 d_divisorsSize_41), .int (i32 d_size_41), .int (i32 d_askedP_41), .int (i32 d_askedQ_41), .int (i32 d_factor_41)])), (aX7_above, aI X.cI 8 s_above), (aX7_below, aI X.cI 8 s_below), (aX0_divisors, aI X.cI 48 d_divisors_41), (aX0_reachable, aL X.cJ 79 d_reachable_41), (aX0_fewest, aI X.cI 5001 d_fewest_41), (aX0_takes, aL X.cJ 5001 d_takes_41), (aX0_chosen, aI X.cI 48 d_chosen_41)]
          refine q_icmp_ge g (14) 86 r_l2 rx69 (by decide) dX7_divisor_72 (fun b72 => ?_) (fun b72 => ?_)
          · replace h := h.1 b72
            refine q_bipush g (-4) (by decide) (by decide) dX7_divisor_86 ?_
            refine q_lv (lv' := []) [] rfl ?_
            exact s_X7_divisor_88 g hR hX7 aX7_above aX7_below hX3 hX2 hX1 hX6 hX0 hX5 aX0_divisors aX0_reachable aX0_fewest aX0_takes aX0_chosen s_above s_below r_s_above r_s_below Q hF d_divisors_41 d_reachable_41 d_fewest_41 d_takes_41 d_chosen_41 d_divisorsSize_41 d_size_41 d_askedP_41 d_askedQ_41 d_factor_41 (-4) rd_divisors_41 rd_reachable_41 rd_fewest_41 rd_takes_41 rd_chosen_41 rd_divisorsSize_41 rd_size_41 rd_askedP_41 rd_askedQ_41 rd_factor_41 (r32_lit _ (by decide)) h
          replace h := h.2 b72
          refine q_aload_n g 0 1 rfl dX7_divisor_75 ?_
          refine q_get (C := RX7) (T := TX7) (N := 8) g 47 inX7 0 6 rfl rfl (by decide) wF_X7_47 rfl dX7_divisor_76 ?_
          refine q_iload_n g 2 3 rfl dX7_divisor_79 ?_
          refine q_callV (lev := 1) (mc := 0) (ms := 0) g 153 (c_X0_at X.l X.D X.cI X.cJ X.zt hX0 aX0_divisors aX0_reachable aX0_fewest aX0_takes aX0_chosen d_divisorsSize_41 d_size_41 d_askedP_41 d_askedQ_41 d_factor_41 d_chosen_41 l2 _ rd_chosen_41 rd_size_41 r_l2 h) (wr := [(hX7, .inr (6, [.ref aX7_above, .ref aX7_below, .ref hX3, .ref hX2, .ref hX1, .ref hX6, .ref hX0, .ref hX5])), (aX7_above, aI X.cI 8 s_above), (aX7_below, aI X.cI 8 s_below), (aX0_divisors, aI X.cI 48 d_divisors_41), (aX0_reachable, aL X.cJ 79 d_reachable_41), (aX0_fewest, aI X.cI 5001 d_fewest_41), (aX0_takes, aL X.cJ 5001 d_takes_41)]) [1, 8] [0, 2, 3, 4, 5, 6, 7] rfl rfl rfl (by decide) (by decide) (by decide) (ci := 0) rfl rfl rfl wM_X7_153 wI_X0_at wS_X0_at wZ_X0 wC_X0_at 1 rfl (by decide +kernel) (by rw [hR]; exact ⟨by show 1 + 1 ≤ 5; omega, by show 8 + (2 + 11) + 100 * 1 ≤ 100 * 5; omega⟩) (by rw [hR]; exact ⟨Nat.le_refl _, Nat.le_refl _⟩) (Nat.le_of_ble_eq_true rfl) rfl dX7_divisor_80 (fun rv w1 hq => ?_)
          obtain ⟨x80, rfl, rfl, rx80, h⟩ := hq
          refine q_ws (ws' := [(hX7, .inr (6, [.ref aX7_above, .ref aX7_below, .ref hX3, .ref hX2, .ref hX1, .ref hX6, .ref hX0, .ref hX5])), (hX0, .inr (0, [.ref aX0_divisors, .ref aX0_reachable, .ref aX0_fewest, .ref aX0_takes, .ref aX0_chosen, .int (i32 d_divisorsSize_41), .int (i32 d_size_41), .int (i32 d_askedP_41), .int (i32 d_askedQ_41), .int (i32 d_factor_41)])), (aX7_above, aI X.cI 8 s_above), (aX7_below, aI X.cI 8 s_below), (aX0_divisors, aI X.cI 48 d_divisors_41), (aX0_reachable, aL X.cJ 79 d_reachable_41), (aX0_fewest, aI X.cI 5001 d_fewest_41), (aX0_takes, aL X.cJ 5001 d_takes_41), (aX0_chosen, aI X.cI 48 d_chosen_41)]) [0, 7, 1, 2, 3, 4, 5, 6, 8] (by decide) rfl rfl ?_
          show Wat X 0 0 83 [(3, .int (i32 x41)), (0, .ref hX7), (1, .int (i32 l1)), (2, .int (i32 l2))] [.int (i32 x80)] [(hX7, .inr (6, [.ref aX7_above, .ref aX7_below, .ref hX3, .ref hX2, .ref hX1, .ref hX6, .ref hX0, .ref hX5])), (hX0, .inr (0, [.ref aX0_divisors, .ref aX0_reachable, .ref aX0_fewest, .ref aX0_takes, .ref aX0_chosen, .int (i32 d_divisorsSize_41), .int (i32 d_size_41), .int (i32 d_askedP_41), .int (i32 d_askedQ_41), .int (i32 d_factor_41)])), (aX7_above, aI X.cI 8 s_above), (aX7_below, aI X.cI 8 s_below), (aX0_divisors, aI X.cI 48 d_divisors_41), (aX0_reachable, aL X.cJ 79 d_reachable_41), (aX0_fewest, aI X.cI 5001 d_fewest_41), (aX0_takes, aL X.cJ 5001 d_takes_41), (aX0_chosen, aI X.cI 48 d_chosen_41)]
          refine q_goto g (5) 88 (by decide) dX7_divisor_83 ?_
          refine q_lv (lv' := []) [] rfl ?_
          exact s_X7_divisor_88 g hR hX7 aX7_above aX7_below hX3 hX2 hX1 hX6 hX0 hX5 aX0_divisors aX0_reachable aX0_fewest aX0_takes aX0_chosen s_above s_below r_s_above r_s_below Q hF d_divisors_41 d_reachable_41 d_fewest_41 d_takes_41 d_chosen_41 d_divisorsSize_41 d_size_41 d_askedP_41 d_askedQ_41 d_factor_41 x80 rd_divisors_41 rd_reachable_41 rd_fewest_41 rd_takes_41 rd_chosen_41 rd_divisorsSize_41 rd_size_41 rd_askedP_41 rd_askedQ_41 rd_factor_41 rx80 h
        replace h := h.2 b53
        refine q_aload_n g 0 1 rfl dX7_divisor_56 ?_
        refine q_get (C := RX7) (T := TX7) (N := 8) g 47 inX7 0 6 rfl rfl (by decide) wF_X7_47 rfl dX7_divisor_57 ?_
        refine q_callV (lev := 1) (mc := 0) (ms := 0) g 152 (c_X0_size X.l X.D X.cI X.cJ X.zt hX0 aX0_divisors aX0_reachable aX0_fewest aX0_takes aX0_chosen d_divisorsSize_41 d_size_41 d_askedP_41 d_askedQ_41 d_factor_41 _ rd_size_41 h) (wr := [(hX7, .inr (6, [.ref aX7_above, .ref aX7_below, .ref hX3, .ref hX2, .ref hX1, .ref hX6, .ref hX0, .ref hX5])), (aX7_above, aI X.cI 8 s_above), (aX7_below, aI X.cI 8 s_below), (aX0_divisors, aI X.cI 48 d_divisors_41), (aX0_reachable, aL X.cJ 79 d_reachable_41), (aX0_fewest, aI X.cI 5001 d_fewest_41), (aX0_takes, aL X.cJ 5001 d_takes_41), (aX0_chosen, aI X.cI 48 d_chosen_41)]) [1] [0, 2, 3, 4, 5, 6, 7, 8] rfl rfl rfl (by decide) (by decide) (by decide) (ci := 0) rfl rfl rfl wM_X7_152 wI_X0_size wS_X0_size wZ_X0 wC_X0_size 0 rfl (by decide +kernel) (by rw [hR]; exact ⟨by show 1 + 1 ≤ 5; omega, by show 8 + (1 + 11) + 100 * 1 ≤ 100 * 5; omega⟩) (by rw [hR]; exact ⟨Nat.le_refl _, Nat.le_refl _⟩) (Nat.le_of_ble_eq_true rfl) rfl dX7_divisor_60 (fun rv w1 hq => ?_)
        obtain ⟨x60, rfl, rfl, rx60, h⟩ := hq
        refine q_ws (ws' := [(hX7, .inr (6, [.ref aX7_above, .ref aX7_below, .ref hX3, .ref hX2, .ref hX1, .ref hX6, .ref hX0, .ref hX5])), (hX0, .inr (0, [.ref aX0_divisors, .ref aX0_reachable, .ref aX0_fewest, .ref aX0_takes, .ref aX0_chosen, .int (i32 d_divisorsSize_41), .int (i32 d_size_41), .int (i32 d_askedP_41), .int (i32 d_askedQ_41), .int (i32 d_factor_41)])), (aX7_above, aI X.cI 8 s_above), (aX7_below, aI X.cI 8 s_below), (aX0_divisors, aI X.cI 48 d_divisors_41), (aX0_reachable, aL X.cJ 79 d_reachable_41), (aX0_fewest, aI X.cI 5001 d_fewest_41), (aX0_takes, aL X.cJ 5001 d_takes_41), (aX0_chosen, aI X.cI 48 d_chosen_41)]) [0, 8, 1, 2, 3, 4, 5, 6, 7] (by decide) rfl rfl ?_
        show Wat X 0 0 63 [(3, .int (i32 x41)), (0, .ref hX7), (1, .int (i32 l1)), (2, .int (i32 l2))] [.int (i32 x60)] [(hX7, .inr (6, [.ref aX7_above, .ref aX7_below, .ref hX3, .ref hX2, .ref hX1, .ref hX6, .ref hX0, .ref hX5])), (hX0, .inr (0, [.ref aX0_divisors, .ref aX0_reachable, .ref aX0_fewest, .ref aX0_takes, .ref aX0_chosen, .int (i32 d_divisorsSize_41), .int (i32 d_size_41), .int (i32 d_askedP_41), .int (i32 d_askedQ_41), .int (i32 d_factor_41)])), (aX7_above, aI X.cI 8 s_above), (aX7_below, aI X.cI 8 s_below), (aX0_divisors, aI X.cI 48 d_divisors_41), (aX0_reachable, aL X.cJ 79 d_reachable_41), (aX0_fewest, aI X.cI 5001 d_fewest_41), (aX0_takes, aL X.cJ 5001 d_takes_41), (aX0_chosen, aI X.cI 48 d_chosen_41)]
        exact q_iret g hF ⟨x60, d_divisors_41, d_reachable_41, d_fewest_41, d_takes_41, d_chosen_41, d_divisorsSize_41, d_size_41, d_askedP_41, d_askedQ_41, d_factor_41, rfl, rfl, rx60, rd_divisors_41, rd_reachable_41, rd_fewest_41, rd_takes_41, rd_chosen_41, rd_divisorsSize_41, rd_size_41, rd_askedP_41, rd_askedQ_41, rd_factor_41, h⟩ dX7_divisor_63
      replace h := h.2 b46
      refine q_iload_n g 3 0 rfl dX7_divisor_49 ?_
      exact q_iret g hF ⟨x41, d_divisors_41, d_reachable_41, d_fewest_41, d_takes_41, d_chosen_41, d_divisorsSize_41, d_size_41, d_askedP_41, d_askedQ_41, d_factor_41, rfl, rfl, rx41, rd_divisors_41, rd_reachable_41, rd_fewest_41, rd_takes_41, rd_chosen_41, rd_divisorsSize_41, rd_size_41, rd_askedP_41, rd_askedQ_41, rd_factor_41, h⟩ dX7_divisor_50
    replace h := h.2 b19
    refine q_bipush g (-2) (by decide) (by decide) dX7_divisor_22 ?_
    exact q_iret g hF ⟨(-2), d_divisors, d_reachable, d_fewest, d_takes, d_chosen, d_divisorsSize, d_size, d_askedP, d_askedQ, d_factor, rfl, rfl, (r32_lit _ (by decide)), r_d_divisors, r_d_reachable, r_d_fewest, r_d_takes, r_d_chosen, r_d_divisorsSize, r_d_size, r_d_askedP, r_d_askedQ, r_d_factor, h⟩ dX7_divisor_24
  replace h := h.2 b9
  refine q_lv (lv' := []) [] rfl ?_
  exact s_X7_divisor_12 g hR hX7 aX7_above aX7_below hX3 hX2 hX1 hX6 hX0 hX5 aX0_divisors aX0_reachable aX0_fewest aX0_takes aX0_chosen s_above s_below r_s_above r_s_below Q hF d_divisors d_reachable d_fewest d_takes d_chosen d_divisorsSize d_size d_askedP d_askedQ d_factor r_d_divisors r_d_reachable r_d_fewest r_d_takes r_d_chosen r_d_divisorsSize r_d_size r_d_askedP r_d_askedQ r_d_factor h
theorem dX7_fault_0 : decode cX7_fault 0 = .ok (.aload_n 0, 1) := by decide +kernel
theorem dX7_fault_1 : decode cX7_fault 1 = .ok (.getfield 40, 3) := by decide +kernel
theorem dX7_fault_4 : decode cX7_fault 4 = .ok (.invokevirtual 135, 3) := by decide +kernel
theorem dX7_fault_7 : decode cX7_fault 7 = .ok (.ireturn, 1) := by decide +kernel
abbrev po_X7_fault (cI cJ : ClassId) (hX7 : Nat) (aX7_above : Nat) (aX7_below : Nat) (hX3 : Nat) (hX2 : Nat) (hX1 : Nat) (hX6 : Nat) (hX0 : Nat) (hX5 : Nat) (aX6_letters : Nat) (w_size : Int) (w_wrong : Int) (Q : Int → Prop) : Option Value → va_W → Prop := fun rv w1 => ∃ (r0 : Int), rv = some (.int (i32 r0)) ∧ w1 = [(hX7, .inr (6, [.ref aX7_above, .ref aX7_below, .ref hX3, .ref hX2, .ref hX1, .ref hX6, .ref hX0, .ref hX5])), (hX6, .inr (5, [.ref aX6_letters, .int (i32 w_size), .int (i32 w_wrong)]))] ∧ r32 r0 ∧ Q r0
def wp_X7_fault (Q : Int → Prop) (w_wrong : Int) : Prop := wp_X6_firstWrong (fun (x4 : Int) => Q x4) w_wrong
set_option maxHeartbeats 4000000 in
set_option maxRecDepth 100000 in
theorem c_X7_fault (l : Launch) (D : va_G) (cI cJ : ClassId) (zt : Nat) (hX7 : Nat) (aX7_above : Nat) (aX7_below : Nat) (hX3 : Nat) (hX2 : Nat) (hX1 : Nat) (hX6 : Nat) (hX0 : Nat) (hX5 : Nat) (aX6_letters : Nat) (w_size : Int) (w_wrong : Int) (Q : Int → Prop) (r_w_wrong : r32 w_wrong) (h : wp_X7_fault Q w_wrong) : Ct l D cI cJ zt yX7_fault cX7_fault 1 (some .int) 2 0 0 [.ref hX7] [(hX7, .inr (6, [.ref aX7_above, .ref aX7_below, .ref hX3, .ref hX2, .ref hX1, .ref hX6, .ref hX0, .ref hX5])), (hX6, .inr (5, [.ref aX6_letters, .int (i32 w_size), .int (i32 w_wrong)]))] (po_X7_fault cI cJ hX7 aX7_above aX7_below hX3 hX2 hX1 hX6 hX0 hX5 aX6_letters w_size w_wrong Q) := by
  refine ct_of (by decide +kernel) (Nat.le_of_ble_eq_true rfl) (fun X hl hDD hcI hcJ hzt hR hF hnm g => ?_)
  subst hl; subst hDD; subst hcI; subst hcJ; subst hzt
  show Wat X 0 0 0 [(0, .ref hX7)] [] [(hX7, .inr (6, [.ref aX7_above, .ref aX7_below, .ref hX3, .ref hX2, .ref hX1, .ref hX6, .ref hX0, .ref hX5])), (hX6, .inr (5, [.ref aX6_letters, .int (i32 w_size), .int (i32 w_wrong)]))]
  replace g : Gd X cX7_fault RX7 (some .int) 1 := g
  rw [wp_X7_fault] at h
  refine q_aload_n g 0 0 rfl dX7_fault_0 ?_
  refine q_get (C := RX7) (T := TX7) (N := 8) g 40 inX7 0 5 rfl rfl (by decide) wF_X7_40 rfl dX7_fault_1 ?_
  refine q_callV (lev := 1) (mc := 0) (ms := 0) g 135 (c_X6_firstWrong X.l X.D X.cI X.cJ X.zt hX6 aX6_letters w_size w_wrong _ r_w_wrong h) (wr := [(hX7, .inr (6, [.ref aX7_above, .ref aX7_below, .ref hX3, .ref hX2, .ref hX1, .ref hX6, .ref hX0, .ref hX5]))]) [1] [0] rfl rfl rfl (by decide) (by decide) (by decide) (ci := 5) rfl rfl rfl wM_X7_135 wI_X6_firstWrong wS_X6_firstWrong wZ_X6 wC_X6_firstWrong 0 rfl (by decide +kernel) (by rw [hR]; exact ⟨by show 1 + 1 ≤ 2; omega, by show 8 + (1 + 11) + 100 * 1 ≤ 100 * 2; omega⟩) (by rw [hR]; exact ⟨Nat.le_refl _, Nat.le_refl _⟩) (Nat.le_of_ble_eq_true rfl) rfl dX7_fault_4 (fun rv w1 hq => ?_)
  obtain ⟨x4, rfl, rfl, rx4, h⟩ := hq
  show Wat X 0 0 7 [(0, .ref hX7)] [.int (i32 x4)] [(hX7, .inr (6, [.ref aX7_above, .ref aX7_below, .ref hX3, .ref hX2, .ref hX1, .ref hX6, .ref hX0, .ref hX5])), (hX6, .inr (5, [.ref aX6_letters, .int (i32 w_size), .int (i32 w_wrong)]))]
  exact q_iret g hF ⟨x4, rfl, rfl, rx4, h⟩ dX7_fault_7
theorem dX7_fewest_0 : decode cX7_fewest 0 = .ok (.iload_n 1, 1) := by decide +kernel
theorem dX7_fewest_1 : decode cX7_fewest 1 = .ok (.i2l, 1) := by decide +kernel
theorem dX7_fewest_2 : decode cX7_fewest 2 = .ok (.iload_n 2, 1) := by decide +kernel
theorem dX7_fewest_3 : decode cX7_fewest 3 = .ok (.i2l, 1) := by decide +kernel
theorem dX7_fewest_4 : decode cX7_fewest 4 = .ok (.invokestatic 176, 3) := by decide +kernel
theorem dX7_fewest_7 : decode cX7_fewest 7 = .ok (.l2i, 1) := by decide +kernel
theorem dX7_fewest_8 : decode cX7_fewest 8 = .ok (.istore 5, 2) := by decide +kernel
theorem dX7_fewest_10 : decode cX7_fewest 10 = .ok (.aload_n 0, 1) := by decide +kernel
theorem dX7_fewest_11 : decode cX7_fewest 11 = .ok (.getfield 26, 3) := by decide +kernel
theorem dX7_fewest_14 : decode cX7_fewest 14 = .ok (.iload_n 1, 1) := by decide +kernel
theorem dX7_fewest_15 : decode cX7_fewest 15 = .ok (.iload 5, 2) := by decide +kernel
theorem dX7_fewest_17 : decode cX7_fewest 17 = .ok (.idiv, 1) := by decide +kernel
theorem dX7_fewest_18 : decode cX7_fewest 18 = .ok (.iload_n 2, 1) := by decide +kernel
theorem dX7_fewest_19 : decode cX7_fewest 19 = .ok (.iload 5, 2) := by decide +kernel
theorem dX7_fewest_21 : decode cX7_fewest 21 = .ok (.idiv, 1) := by decide +kernel
theorem dX7_fewest_22 : decode cX7_fewest 22 = .ok (.iload_n 3, 1) := by decide +kernel
theorem dX7_fewest_23 : decode cX7_fewest 23 = .ok (.invokevirtual 94, 3) := by decide +kernel
theorem dX7_fewest_26 : decode cX7_fewest 26 = .ok (.aload_n 0, 1) := by decide +kernel
theorem dX7_fewest_27 : decode cX7_fewest 27 = .ok (.getfield 26, 3) := by decide +kernel
theorem dX7_fewest_30 : decode cX7_fewest 30 = .ok (.iload 4, 2) := by decide +kernel
theorem dX7_fewest_32 : decode cX7_fewest 32 = .ok (.invokevirtual 205, 3) := by decide +kernel
theorem dX7_fewest_35 : decode cX7_fewest 35 = .ok (.ireturn, 1) := by decide +kernel
abbrev po_X7_fewest (cI cJ : ClassId) (hX7 : Nat) (aX7_above : Nat) (aX7_below : Nat) (hX3 : Nat) (hX2 : Nat) (hX1 : Nat) (hX6 : Nat) (hX0 : Nat) (hX5 : Nat) (aX2_tried : Nat) (aX2_triedLeave : Nat) (aX2_numbers : Nat) (aX2_weights : Nat) (aX2_weightsAhead : Nat) (aX2_grains : Nat) (aX2_placeFrom : Nat) (aX2_first : Nat) (Q : Int → (Int → Int) → (Int → Int) → (Int → Int) → (Int → Int) → (Int → Int) → (Int → Int) → (Int → Int) → (Int → Int) → Int → Int → Int → Int → Int → Int → Prop) : Option Value → va_W → Prop := fun rv w1 => ∃ (r0 : Int) (n_tried : Int → Int) (n_triedLeave : Int → Int) (n_numbers : Int → Int) (n_weights : Int → Int) (n_weightsAhead : Int → Int) (n_grains : Int → Int) (n_placeFrom : Int → Int) (n_first : Int → Int) (n_barred : Int) (n_limit : Int) (n_size : Int) (n_parts : Int) (n_wanted : Int) (n_found : Int), rv = some (.int (i32 r0)) ∧ w1 = [(hX7, .inr (6, [.ref aX7_above, .ref aX7_below, .ref hX3, .ref hX2, .ref hX1, .ref hX6, .ref hX0, .ref hX5])), (hX2, .inr (2, [.ref aX2_tried, .ref aX2_triedLeave, .ref aX2_numbers, .ref aX2_weights, .ref aX2_weightsAhead, .ref aX2_grains, .ref aX2_placeFrom, .ref aX2_first, .long (i64 n_barred), .int (i32 n_limit), .int (i32 n_size), .long (i64 n_parts), .long (i64 n_wanted), .int (i32 n_found)])), (aX2_tried, aI cI 5 n_tried), (aX2_triedLeave, aL cJ 5 n_triedLeave), (aX2_numbers, aI cI 60 n_numbers), (aX2_weights, aL cJ 60 n_weights), (aX2_weightsAhead, aL cJ 61 n_weightsAhead), (aX2_grains, aL cJ 61 n_grains), (aX2_placeFrom, aI cI 61 n_placeFrom), (aX2_first, aL cJ 1 n_first)] ∧ r32 r0 ∧ rr32 n_tried ∧ rr64 n_triedLeave ∧ rr32 n_numbers ∧ rr64 n_weights ∧ rr64 n_weightsAhead ∧ rr64 n_grains ∧ rr32 n_placeFrom ∧ rr64 n_first ∧ r64 n_barred ∧ r32 n_limit ∧ r32 n_size ∧ r64 n_parts ∧ r64 n_wanted ∧ r32 n_found ∧ Q r0 n_tried n_triedLeave n_numbers n_weights n_weightsAhead n_grains n_placeFrom n_first n_barred n_limit n_size n_parts n_wanted n_found
def wp_X7_fewest (Q : Int → (Int → Int) → (Int → Int) → (Int → Int) → (Int → Int) → (Int → Int) → (Int → Int) → (Int → Int) → (Int → Int) → Int → Int → Int → Int → Int → Int → Prop) (n_tried : Int → Int) (n_triedLeave : Int → Int) (n_numbers : Int → Int) (n_weights : Int → Int) (n_weightsAhead : Int → Int) (n_grains : Int → Int) (n_placeFrom : Int → Int) (n_first : Int → Int) (n_barred : Int) (n_limit : Int) (n_size : Int) (n_parts : Int) (n_wanted : Int) (n_found : Int) (l1 : Int) (l2 : Int) (l3 : Int) (l4 : Int) : Prop := wp_X7_commonDivisor (fun (x4 : Int) => (r32 x4 ∧ 0 < x4 ∧ 0 < x4 ∧ wp_X2_prepare (fun (n_tried_23 : Int → Int) (n_triedLeave_23 : Int → Int) (n_numbers_23 : Int → Int) (n_weights_23 : Int → Int) (n_weightsAhead_23 : Int → Int) (n_grains_23 : Int → Int) (n_placeFrom_23 : Int → Int) (n_barred_23 : Int) (n_limit_23 : Int) (n_size_23 : Int) (n_parts_23 : Int) (n_wanted_23 : Int) => wp_X2_fewestShares (fun (x32 : Int) (n_first_32 : Int → Int) (n_found_32 : Int) => Q x32 n_tried_23 n_triedLeave_23 n_numbers_23 n_weights_23 n_weightsAhead_23 n_grains_23 n_placeFrom_23 n_first_32 n_barred_23 n_limit_23 n_size_23 n_parts_23 n_wanted_23 n_found_32) n_numbers_23 n_weights_23 n_weightsAhead_23 n_grains_23 n_placeFrom_23 n_first n_limit_23 n_size_23 n_parts_23 n_wanted_23 n_found l4) n_tried n_triedLeave n_numbers n_weights n_weightsAhead n_grains n_placeFrom n_barred n_limit n_size n_parts n_wanted (l1.tdiv x4) (l2.tdiv x4) l3)) l1 l2
set_option maxHeartbeats 4000000 in
set_option maxRecDepth 100000 in
theorem c_X7_fewest (l : Launch) (D : va_G) (cI cJ : ClassId) (zt : Nat) (hX7 : Nat) (aX7_above : Nat) (aX7_below : Nat) (hX3 : Nat) (hX2 : Nat) (hX1 : Nat) (hX6 : Nat) (hX0 : Nat) (hX5 : Nat) (aX2_tried : Nat) (aX2_triedLeave : Nat) (aX2_numbers : Nat) (aX2_weights : Nat) (aX2_weightsAhead : Nat) (aX2_grains : Nat) (aX2_placeFrom : Nat) (aX2_first : Nat) (n_barred : Int) (n_limit : Int) (n_size : Int) (n_parts : Int) (n_wanted : Int) (n_found : Int) (n_tried : Int → Int) (n_triedLeave : Int → Int) (n_numbers : Int → Int) (n_weights : Int → Int) (n_weightsAhead : Int → Int) (n_grains : Int → Int) (n_placeFrom : Int → Int) (n_first : Int → Int) (l1 : Int) (l2 : Int) (l3 : Int) (l4 : Int) (Q : Int → (Int → Int) → (Int → Int) → (Int → Int) → (Int → Int) → (Int → Int) → (Int → Int) → (Int → Int) → (Int → Int) → Int → Int → Int → Int → Int → Int → Prop) (r_n_tried : rr32 n_tried) (r_n_triedLeave : rr64 n_triedLeave) (r_n_numbers : rr32 n_numbers) (r_n_weights : rr64 n_weights) (r_n_weightsAhead : rr64 n_weightsAhead) (r_n_grains : rr64 n_grains) (r_n_placeFrom : rr32 n_placeFrom) (r_n_first : rr64 n_first) (r_n_barred : r64 n_barred) (r_n_limit : r32 n_limit) (r_n_size : r32 n_size) (r_n_parts : r64 n_parts) (r_n_wanted : r64 n_wanted) (r_n_found : r32 n_found) (r_l1 : r32 l1) (r_l2 : r32 l2) (r_l3 : r32 l3) (r_l4 : r32 l4) (h : wp_X7_fewest Q n_tried n_triedLeave n_numbers n_weights n_weightsAhead n_grains n_placeFrom n_first n_barred n_limit n_size n_parts n_wanted n_found l1 l2 l3 l4) : Ct l D cI cJ zt yX7_fewest cX7_fewest 6 (some .int) 14 0 0 [.ref hX7, .int (i32 l1), .int (i32 l2), .int (i32 l3), .int (i32 l4)] [(hX7, .inr (6, [.ref aX7_above, .ref aX7_below, .ref hX3, .ref hX2, .ref hX1, .ref hX6, .ref hX0, .ref hX5])), (hX2, .inr (2, [.ref aX2_tried, .ref aX2_triedLeave, .ref aX2_numbers, .ref aX2_weights, .ref aX2_weightsAhead, .ref aX2_grains, .ref aX2_placeFrom, .ref aX2_first, .long (i64 n_barred), .int (i32 n_limit), .int (i32 n_size), .long (i64 n_parts), .long (i64 n_wanted), .int (i32 n_found)])), (aX2_tried, aI cI 5 n_tried), (aX2_triedLeave, aL cJ 5 n_triedLeave), (aX2_numbers, aI cI 60 n_numbers), (aX2_weights, aL cJ 60 n_weights), (aX2_weightsAhead, aL cJ 61 n_weightsAhead), (aX2_grains, aL cJ 61 n_grains), (aX2_placeFrom, aI cI 61 n_placeFrom), (aX2_first, aL cJ 1 n_first)] (po_X7_fewest cI cJ hX7 aX7_above aX7_below hX3 hX2 hX1 hX6 hX0 hX5 aX2_tried aX2_triedLeave aX2_numbers aX2_weights aX2_weightsAhead aX2_grains aX2_placeFrom aX2_first Q) := by
  refine ct_of (by decide +kernel) (Nat.le_of_ble_eq_true rfl) (fun X hl hDD hcI hcJ hzt hR hF hnm g => ?_)
  subst hl; subst hDD; subst hcI; subst hcJ; subst hzt
  show Wat X 0 0 0 [(0, .ref hX7), (1, .int (i32 l1)), (2, .int (i32 l2)), (3, .int (i32 l3)), (4, .int (i32 l4))] [] [(hX7, .inr (6, [.ref aX7_above, .ref aX7_below, .ref hX3, .ref hX2, .ref hX1, .ref hX6, .ref hX0, .ref hX5])), (hX2, .inr (2, [.ref aX2_tried, .ref aX2_triedLeave, .ref aX2_numbers, .ref aX2_weights, .ref aX2_weightsAhead, .ref aX2_grains, .ref aX2_placeFrom, .ref aX2_first, .long (i64 n_barred), .int (i32 n_limit), .int (i32 n_size), .long (i64 n_parts), .long (i64 n_wanted), .int (i32 n_found)])), (aX2_tried, aI X.cI 5 n_tried), (aX2_triedLeave, aL X.cJ 5 n_triedLeave), (aX2_numbers, aI X.cI 60 n_numbers), (aX2_weights, aL X.cJ 60 n_weights), (aX2_weightsAhead, aL X.cJ 61 n_weightsAhead), (aX2_grains, aL X.cJ 61 n_grains), (aX2_placeFrom, aI X.cI 61 n_placeFrom), (aX2_first, aL X.cJ 1 n_first)]
  replace g : Gd X cX7_fewest RX7 (some .int) 6 := g
  rw [wp_X7_fewest] at h
  refine q_iload_n g 1 1 rfl dX7_fewest_0 ?_
  refine q_i2l g r_l1 dX7_fewest_1 ?_
  refine q_iload_n g 2 2 rfl dX7_fewest_2 ?_
  refine q_i2l g r_l2 dX7_fewest_3 ?_
  refine q_callS (lev := 2) (mc := 0) (ms := 0) (As := [.long (i64 l1), .long (i64 l2)]) g 176 (c_X7_commonDivisor X.l X.D X.cI X.cJ X.zt l1 l2 _ (r32_64 r_l1) (r32_64 r_l2) h) (wr := [(hX7, .inr (6, [.ref aX7_above, .ref aX7_below, .ref hX3, .ref hX2, .ref hX1, .ref hX6, .ref hX0, .ref hX5])), (hX2, .inr (2, [.ref aX2_tried, .ref aX2_triedLeave, .ref aX2_numbers, .ref aX2_weights, .ref aX2_weightsAhead, .ref aX2_grains, .ref aX2_placeFrom, .ref aX2_first, .long (i64 n_barred), .int (i32 n_limit), .int (i32 n_size), .long (i64 n_parts), .long (i64 n_wanted), .int (i32 n_found)])), (aX2_tried, aI X.cI 5 n_tried), (aX2_triedLeave, aL X.cJ 5 n_triedLeave), (aX2_numbers, aI X.cI 60 n_numbers), (aX2_weights, aL X.cJ 60 n_weights), (aX2_weightsAhead, aL X.cJ 61 n_weightsAhead), (aX2_grains, aL X.cJ 61 n_grains), (aX2_placeFrom, aI X.cI 61 n_placeFrom), (aX2_first, aL X.cJ 1 n_first)]) [] [0, 1, 2, 3, 4, 5, 6, 7, 8, 9] rfl rfl rfl (by decide) (by decide) (by decide) wM_X7_176 wT_X7_commonDivisor wZ_X7 wC_X7_commonDivisor 2 rfl (by decide +kernel) (by rw [hR]; exact ⟨by show 2 + 1 ≤ 14; omega, by show 8 + (11 + 11) + 100 * 2 ≤ 100 * 14; omega⟩) (by rw [hR]; exact ⟨Nat.le_refl _, Nat.le_refl _⟩) (Nat.le_of_ble_eq_true rfl) rfl dX7_fewest_4 (fun rv w1 hq => ?_)
  obtain ⟨x4, rfl, rfl, rx4, h⟩ := hq
  show Wat X 0 0 7 [(0, .ref hX7), (1, .int (i32 l1)), (2, .int (i32 l2)), (3, .int (i32 l3)), (4, .int (i32 l4))] [.long (i64 x4)] [(hX7, .inr (6, [.ref aX7_above, .ref aX7_below, .ref hX3, .ref hX2, .ref hX1, .ref hX6, .ref hX0, .ref hX5])), (hX2, .inr (2, [.ref aX2_tried, .ref aX2_triedLeave, .ref aX2_numbers, .ref aX2_weights, .ref aX2_weightsAhead, .ref aX2_grains, .ref aX2_placeFrom, .ref aX2_first, .long (i64 n_barred), .int (i32 n_limit), .int (i32 n_size), .long (i64 n_parts), .long (i64 n_wanted), .int (i32 n_found)])), (aX2_tried, aI X.cI 5 n_tried), (aX2_triedLeave, aL X.cJ 5 n_triedLeave), (aX2_numbers, aI X.cI 60 n_numbers), (aX2_weights, aL X.cJ 60 n_weights), (aX2_weightsAhead, aL X.cJ 61 n_weightsAhead), (aX2_grains, aL X.cJ 61 n_grains), (aX2_placeFrom, aI X.cI 61 n_placeFrom), (aX2_first, aL X.cJ 1 n_first)]
  obtain ⟨c7, h⟩ := h
  refine q_l2i g dX7_fewest_7 ?_
  refine q_istore (lv' := [(5, .int (i32 x4)), (0, .ref hX7), (1, .int (i32 l1)), (2, .int (i32 l2)), (3, .int (i32 l3)), (4, .int (i32 l4))]) g 5   (by decide) rfl dX7_fewest_8 ?_
  refine q_aload_n g 0 1 rfl dX7_fewest_10 ?_
  refine q_get (C := RX7) (T := TX7) (N := 8) g 26 inX7 0 3 rfl rfl (by decide) wF_X7_26 rfl dX7_fewest_11 ?_
  refine q_iload_n g 1 2 rfl dX7_fewest_14 ?_
  refine q_iload g 5 0 rfl dX7_fewest_15 ?_
  obtain ⟨c17, h⟩ := h
  refine q_idiv g r_l1 c7 (ne_of_pos c17) dX7_fewest_17 ?_
  refine q_iload_n g 2 3 rfl dX7_fewest_18 ?_
  refine q_iload g 5 0 rfl dX7_fewest_19 ?_
  obtain ⟨c21, h⟩ := h
  refine q_idiv g r_l2 c7 (ne_of_pos c21) dX7_fewest_21 ?_
  refine q_iload_n g 3 4 rfl dX7_fewest_22 ?_
  refine q_callV (lev := 6) (mc := 0) (ms := 0) g 94 (c_X2_prepare X.l X.D X.cI X.cJ X.zt hX2 aX2_tried aX2_triedLeave aX2_numbers aX2_weights aX2_weightsAhead aX2_grains aX2_placeFrom aX2_first n_barred n_limit n_size n_parts n_wanted n_found n_tried n_triedLeave n_numbers n_weights n_weightsAhead n_grains n_placeFrom (l1.tdiv x4) (l2.tdiv x4) l3 _ r_n_tried r_n_triedLeave r_n_numbers r_n_weights r_n_weightsAhead r_n_grains r_n_placeFrom r_n_barred r_n_limit r_n_size r_n_parts r_n_wanted (r32_tdiv r_l1 c17) (r32_tdiv r_l2 c21) r_l3 h) (wr := [(hX7, .inr (6, [.ref aX7_above, .ref aX7_below, .ref hX3, .ref hX2, .ref hX1, .ref hX6, .ref hX0, .ref hX5])), (aX2_first, aL X.cJ 1 n_first)]) [1, 2, 3, 4, 5, 6, 7, 8] [0, 9] rfl rfl rfl (by decide) (by decide) (by decide) (ci := 2) rfl rfl rfl wM_X7_94 wI_X2_prepare wS_X2_prepare wZ_X2 wC_X2_prepare 3 rfl (by decide +kernel) (by rw [hR]; exact ⟨by show 6 + 1 ≤ 14; omega, by show 8 + (4 + 11) + 100 * 6 ≤ 100 * 14; omega⟩) (by rw [hR]; exact ⟨Nat.le_refl _, Nat.le_refl _⟩) (Nat.le_of_ble_eq_true rfl) rfl dX7_fewest_23 (fun rv w1 hq => ?_)
  obtain ⟨n_tried_23, n_triedLeave_23, n_numbers_23, n_weights_23, n_weightsAhead_23, n_grains_23, n_placeFrom_23, n_barred_23, n_limit_23, n_size_23, n_parts_23, n_wanted_23, rfl, rfl, rn_tried_23, rn_triedLeave_23, rn_numbers_23, rn_weights_23, rn_weightsAhead_23, rn_grains_23, rn_placeFrom_23, rn_barred_23, rn_limit_23, rn_size_23, rn_parts_23, rn_wanted_23, h⟩ := hq
  refine q_ws (ws' := [(hX7, .inr (6, [.ref aX7_above, .ref aX7_below, .ref hX3, .ref hX2, .ref hX1, .ref hX6, .ref hX0, .ref hX5])), (hX2, .inr (2, [.ref aX2_tried, .ref aX2_triedLeave, .ref aX2_numbers, .ref aX2_weights, .ref aX2_weightsAhead, .ref aX2_grains, .ref aX2_placeFrom, .ref aX2_first, .long (i64 n_barred_23), .int (i32 n_limit_23), .int (i32 n_size_23), .long (i64 n_parts_23), .long (i64 n_wanted_23), .int (i32 n_found)])), (aX2_tried, aI X.cI 5 n_tried_23), (aX2_triedLeave, aL X.cJ 5 n_triedLeave_23), (aX2_numbers, aI X.cI 60 n_numbers_23), (aX2_weights, aL X.cJ 60 n_weights_23), (aX2_weightsAhead, aL X.cJ 61 n_weightsAhead_23), (aX2_grains, aL X.cJ 61 n_grains_23), (aX2_placeFrom, aI X.cI 61 n_placeFrom_23), (aX2_first, aL X.cJ 1 n_first)]) [0, 2, 3, 4, 5, 6, 7, 8, 9, 1] (by decide) rfl rfl ?_
  show Wat X 0 0 26 [(5, .int (i32 x4)), (0, .ref hX7), (1, .int (i32 l1)), (2, .int (i32 l2)), (3, .int (i32 l3)), (4, .int (i32 l4))] [] [(hX7, .inr (6, [.ref aX7_above, .ref aX7_below, .ref hX3, .ref hX2, .ref hX1, .ref hX6, .ref hX0, .ref hX5])), (hX2, .inr (2, [.ref aX2_tried, .ref aX2_triedLeave, .ref aX2_numbers, .ref aX2_weights, .ref aX2_weightsAhead, .ref aX2_grains, .ref aX2_placeFrom, .ref aX2_first, .long (i64 n_barred_23), .int (i32 n_limit_23), .int (i32 n_size_23), .long (i64 n_parts_23), .long (i64 n_wanted_23), .int (i32 n_found)])), (aX2_tried, aI X.cI 5 n_tried_23), (aX2_triedLeave, aL X.cJ 5 n_triedLeave_23), (aX2_numbers, aI X.cI 60 n_numbers_23), (aX2_weights, aL X.cJ 60 n_weights_23), (aX2_weightsAhead, aL X.cJ 61 n_weightsAhead_23), (aX2_grains, aL X.cJ 61 n_grains_23), (aX2_placeFrom, aI X.cI 61 n_placeFrom_23), (aX2_first, aL X.cJ 1 n_first)]
  refine q_aload_n g 0 1 rfl dX7_fewest_26 ?_
  refine q_get (C := RX7) (T := TX7) (N := 8) g 26 inX7 0 3 rfl rfl (by decide) wF_X7_26 rfl dX7_fewest_27 ?_
  refine q_iload g 4 5 rfl dX7_fewest_30 ?_
  refine q_callV (lev := 13) (mc := 0) (ms := 0) g 205 (c_X2_fewestShares X.l X.D X.cI X.cJ X.zt hX2 aX2_tried aX2_triedLeave aX2_numbers aX2_weights aX2_weightsAhead aX2_grains aX2_placeFrom aX2_first n_barred_23 n_limit_23 n_size_23 n_parts_23 n_wanted_23 n_found n_numbers_23 n_weights_23 n_weightsAhead_23 n_grains_23 n_placeFrom_23 n_first l4 _ rn_numbers_23 rn_weights_23 rn_weightsAhead_23 rn_grains_23 rn_placeFrom_23 r_n_first rn_limit_23 rn_size_23 rn_parts_23 rn_wanted_23 r_n_found r_l4 h) (wr := [(hX7, .inr (6, [.ref aX7_above, .ref aX7_below, .ref hX3, .ref hX2, .ref hX1, .ref hX6, .ref hX0, .ref hX5])), (aX2_tried, aI X.cI 5 n_tried_23), (aX2_triedLeave, aL X.cJ 5 n_triedLeave_23)]) [1, 4, 5, 6, 7, 8, 9] [0, 2, 3] rfl rfl rfl (by decide) (by decide) (by decide) (ci := 2) rfl rfl rfl wM_X7_205 wI_X2_fewestShares wS_X2_fewestShares wZ_X2 wC_X2_fewestShares 1 rfl (by decide +kernel) (by rw [hR]; exact ⟨by show 13 + 1 ≤ 14; omega, by show 8 + (3 + 11) + 100 * 13 ≤ 100 * 14; omega⟩) (by rw [hR]; exact ⟨Nat.le_refl _, Nat.le_refl _⟩) (Nat.le_of_ble_eq_true rfl) rfl dX7_fewest_32 (fun rv w1 hq => ?_)
  obtain ⟨x32, n_first_32, n_found_32, rfl, rfl, rx32, rn_first_32, rn_found_32, h⟩ := hq
  refine q_ws (ws' := [(hX7, .inr (6, [.ref aX7_above, .ref aX7_below, .ref hX3, .ref hX2, .ref hX1, .ref hX6, .ref hX0, .ref hX5])), (hX2, .inr (2, [.ref aX2_tried, .ref aX2_triedLeave, .ref aX2_numbers, .ref aX2_weights, .ref aX2_weightsAhead, .ref aX2_grains, .ref aX2_placeFrom, .ref aX2_first, .long (i64 n_barred_23), .int (i32 n_limit_23), .int (i32 n_size_23), .long (i64 n_parts_23), .long (i64 n_wanted_23), .int (i32 n_found_32)])), (aX2_tried, aI X.cI 5 n_tried_23), (aX2_triedLeave, aL X.cJ 5 n_triedLeave_23), (aX2_numbers, aI X.cI 60 n_numbers_23), (aX2_weights, aL X.cJ 60 n_weights_23), (aX2_weightsAhead, aL X.cJ 61 n_weightsAhead_23), (aX2_grains, aL X.cJ 61 n_grains_23), (aX2_placeFrom, aI X.cI 61 n_placeFrom_23), (aX2_first, aL X.cJ 1 n_first_32)]) [0, 3, 1, 2, 4, 5, 6, 7, 8, 9] (by decide) rfl rfl ?_
  show Wat X 0 0 35 [(5, .int (i32 x4)), (0, .ref hX7), (1, .int (i32 l1)), (2, .int (i32 l2)), (3, .int (i32 l3)), (4, .int (i32 l4))] [.int (i32 x32)] [(hX7, .inr (6, [.ref aX7_above, .ref aX7_below, .ref hX3, .ref hX2, .ref hX1, .ref hX6, .ref hX0, .ref hX5])), (hX2, .inr (2, [.ref aX2_tried, .ref aX2_triedLeave, .ref aX2_numbers, .ref aX2_weights, .ref aX2_weightsAhead, .ref aX2_grains, .ref aX2_placeFrom, .ref aX2_first, .long (i64 n_barred_23), .int (i32 n_limit_23), .int (i32 n_size_23), .long (i64 n_parts_23), .long (i64 n_wanted_23), .int (i32 n_found_32)])), (aX2_tried, aI X.cI 5 n_tried_23), (aX2_triedLeave, aL X.cJ 5 n_triedLeave_23), (aX2_numbers, aI X.cI 60 n_numbers_23), (aX2_weights, aL X.cJ 60 n_weights_23), (aX2_weightsAhead, aL X.cJ 61 n_weightsAhead_23), (aX2_grains, aL X.cJ 61 n_grains_23), (aX2_placeFrom, aI X.cI 61 n_placeFrom_23), (aX2_first, aL X.cJ 1 n_first_32)]
  exact q_iret g hF ⟨x32, n_tried_23, n_triedLeave_23, n_numbers_23, n_weights_23, n_weightsAhead_23, n_grains_23, n_placeFrom_23, n_first_32, n_barred_23, n_limit_23, n_size_23, n_parts_23, n_wanted_23, n_found_32, rfl, rfl, rx32, rn_tried_23, rn_triedLeave_23, rn_numbers_23, rn_weights_23, rn_weightsAhead_23, rn_grains_23, rn_placeFrom_23, rn_first_32, rn_barred_23, rn_limit_23, rn_size_23, rn_parts_23, rn_wanted_23, rn_found_32, h⟩ dX7_fewest_35
theorem dX7_rising_0 : decode cX7_rising 0 = .ok (.iload_n 1, 1) := by decide +kernel
theorem dX7_rising_1 : decode cX7_rising 1 = .ok (.iconst 2, 1) := by decide +kernel
theorem dX7_rising_2 : decode cX7_rising 2 = .ok (.if_icmp .lt 18, 3) := by decide +kernel
theorem dX7_rising_5 : decode cX7_rising 5 = .ok (.iload_n 1, 1) := by decide +kernel
theorem dX7_rising_6 : decode cX7_rising 6 = .ok (.bipush 30, 2) := by decide +kernel
theorem dX7_rising_8 : decode cX7_rising 8 = .ok (.if_icmp .gt 12, 3) := by decide +kernel
theorem dX7_rising_11 : decode cX7_rising 11 = .ok (.iload_n 2, 1) := by decide +kernel
theorem dX7_rising_12 : decode cX7_rising 12 = .ok (.ifCond .lt 8, 3) := by decide +kernel
theorem dX7_rising_15 : decode cX7_rising 15 = .ok (.iload_n 2, 1) := by decide +kernel
theorem dX7_rising_16 : decode cX7_rising 16 = .ok (.iconst 2, 1) := by decide +kernel
theorem dX7_rising_17 : decode cX7_rising 17 = .ok (.if_icmp .le 7, 3) := by decide +kernel
theorem dX7_rising_20 : decode cX7_rising 20 = .ok (.ldc2_w 83, 3) := by decide +kernel
theorem dX7_rising_23 : decode cX7_rising 23 = .ok (.lreturn, 1) := by decide +kernel
theorem dX7_rising_24 : decode cX7_rising 24 = .ok (.lconst 0, 1) := by decide +kernel
theorem dX7_rising_25 : decode cX7_rising 25 = .ok (.lstore_n 3, 1) := by decide +kernel
theorem dX7_rising_26 : decode cX7_rising 26 = .ok (.lconst 1, 1) := by decide +kernel
theorem dX7_rising_27 : decode cX7_rising 27 = .ok (.lstore 5, 2) := by decide +kernel
theorem dX7_rising_29 : decode cX7_rising 29 = .ok (.iconst 2, 1) := by decide +kernel
theorem dX7_rising_30 : decode cX7_rising 30 = .ok (.istore 7, 2) := by decide +kernel
theorem dX7_rising_32 : decode cX7_rising 32 = .ok (.iload 7, 2) := by decide +kernel
theorem dX7_rising_34 : decode cX7_rising 34 = .ok (.iload_n 1, 1) := by decide +kernel
theorem dX7_rising_35 : decode cX7_rising 35 = .ok (.if_icmp .gt 46, 3) := by decide +kernel
theorem dX7_rising_38 : decode cX7_rising 38 = .ok (.lload_n 3, 1) := by decide +kernel
theorem dX7_rising_39 : decode cX7_rising 39 = .ok (.iload 7, 2) := by decide +kernel
theorem dX7_rising_41 : decode cX7_rising 41 = .ok (.i2l, 1) := by decide +kernel
theorem dX7_rising_42 : decode cX7_rising 42 = .ok (.lmul, 1) := by decide +kernel
theorem dX7_rising_43 : decode cX7_rising 43 = .ok (.lload 5, 2) := by decide +kernel
theorem dX7_rising_45 : decode cX7_rising 45 = .ok (.ladd, 1) := by decide +kernel
theorem dX7_rising_46 : decode cX7_rising 46 = .ok (.lstore_n 3, 1) := by decide +kernel
theorem dX7_rising_47 : decode cX7_rising 47 = .ok (.lload 5, 2) := by decide +kernel
theorem dX7_rising_49 : decode cX7_rising 49 = .ok (.iload 7, 2) := by decide +kernel
theorem dX7_rising_51 : decode cX7_rising 51 = .ok (.i2l, 1) := by decide +kernel
theorem dX7_rising_52 : decode cX7_rising 52 = .ok (.lmul, 1) := by decide +kernel
theorem dX7_rising_53 : decode cX7_rising 53 = .ok (.lstore 5, 2) := by decide +kernel
theorem dX7_rising_55 : decode cX7_rising 55 = .ok (.lload_n 3, 1) := by decide +kernel
theorem dX7_rising_56 : decode cX7_rising 56 = .ok (.lload 5, 2) := by decide +kernel
theorem dX7_rising_58 : decode cX7_rising 58 = .ok (.invokestatic 176, 3) := by decide +kernel
theorem dX7_rising_61 : decode cX7_rising 61 = .ok (.lstore 8, 2) := by decide +kernel
theorem dX7_rising_63 : decode cX7_rising 63 = .ok (.lload_n 3, 1) := by decide +kernel
theorem dX7_rising_64 : decode cX7_rising 64 = .ok (.lload 8, 2) := by decide +kernel
theorem dX7_rising_66 : decode cX7_rising 66 = .ok (.ldiv, 1) := by decide +kernel
theorem dX7_rising_67 : decode cX7_rising 67 = .ok (.lstore_n 3, 1) := by decide +kernel
theorem dX7_rising_68 : decode cX7_rising 68 = .ok (.lload 5, 2) := by decide +kernel
theorem dX7_rising_70 : decode cX7_rising 70 = .ok (.lload 8, 2) := by decide +kernel
theorem dX7_rising_72 : decode cX7_rising 72 = .ok (.ldiv, 1) := by decide +kernel
theorem dX7_rising_73 : decode cX7_rising 73 = .ok (.lstore 5, 2) := by decide +kernel
theorem dX7_rising_75 : decode cX7_rising 75 = .ok (.iinc 7 1, 3) := by decide +kernel
theorem dX7_rising_78 : decode cX7_rising 78 = .ok (.goto (-46), 3) := by decide +kernel
theorem dX7_rising_81 : decode cX7_rising 81 = .ok (.iload_n 2, 1) := by decide +kernel
theorem dX7_rising_82 : decode cX7_rising 82 = .ok (.ifCond .ne 8, 3) := by decide +kernel
theorem dX7_rising_85 : decode cX7_rising 85 = .ok (.lload_n 3, 1) := by decide +kernel
theorem dX7_rising_86 : decode cX7_rising 86 = .ok (.lload 5, 2) := by decide +kernel
theorem dX7_rising_88 : decode cX7_rising 88 = .ok (.ldiv, 1) := by decide +kernel
theorem dX7_rising_89 : decode cX7_rising 89 = .ok (.lreturn, 1) := by decide +kernel
theorem dX7_rising_90 : decode cX7_rising 90 = .ok (.iload_n 2, 1) := by decide +kernel
theorem dX7_rising_91 : decode cX7_rising 91 = .ok (.iconst 1, 1) := by decide +kernel
theorem dX7_rising_92 : decode cX7_rising 92 = .ok (.if_icmp .ne 10, 3) := by decide +kernel
theorem dX7_rising_95 : decode cX7_rising 95 = .ok (.lload_n 3, 1) := by decide +kernel
theorem dX7_rising_96 : decode cX7_rising 96 = .ok (.lload 5, 2) := by decide +kernel
theorem dX7_rising_98 : decode cX7_rising 98 = .ok (.lrem, 1) := by decide +kernel
theorem dX7_rising_99 : decode cX7_rising 99 = .ok (.goto 5, 3) := by decide +kernel
theorem dX7_rising_102 : decode cX7_rising 102 = .ok (.lload 5, 2) := by decide +kernel
theorem dX7_rising_104 : decode cX7_rising 104 = .ok (.lreturn, 1) := by decide +kernel
abbrev po_X7_rising (cI cJ : ClassId) (hX7 : Nat) (aX7_above : Nat) (aX7_below : Nat) (hX3 : Nat) (hX2 : Nat) (hX1 : Nat) (hX6 : Nat) (hX0 : Nat) (hX5 : Nat) (Q : Int → Prop) : Option Value → va_W → Prop := fun rv w1 => ∃ (r0 : Int), rv = some (.long (i64 r0)) ∧ w1 = [(hX7, .inr (6, [.ref aX7_above, .ref aX7_below, .ref hX3, .ref hX2, .ref hX1, .ref hX6, .ref hX0, .ref hX5]))] ∧ r64 r0 ∧ Q r0
def wp_X7_rising_20 (Q : Int → Prop) : Prop := Q (-1)
set_option maxHeartbeats 4000000 in
set_option maxRecDepth 100000 in
theorem s_X7_rising_20 {X : Cx} (g : Gd X cX7_rising RX7 (some .long) 10) (hR : X.R = rmL 3 0 0) (hX7 : Nat) (aX7_above : Nat) (aX7_below : Nat) (hX3 : Nat) (hX2 : Nat) (hX1 : Nat) (hX6 : Nat) (hX0 : Nat) (hX5 : Nat) (Q : Int → Prop) (hF : FQ X 0 0 (po_X7_rising X.cI X.cJ hX7 aX7_above aX7_below hX3 hX2 hX1 hX6 hX0 hX5 Q)) : wp_X7_rising_20 Q → Wat X 0 0 20 [] [] [(hX7, .inr (6, [.ref aX7_above, .ref aX7_below, .ref hX3, .ref hX2, .ref hX1, .ref hX6, .ref hX0, .ref hX5]))] := by
  intro h
  rw [wp_X7_rising_20] at h
  refine q_ldc2 (w := (-1)) g 83 (-1) (by decide +kernel) wL_X7_83 dX7_rising_20 ?_
  exact q_lret g hF ⟨(-1), rfl, rfl, (r64_lit _ (by decide)), h⟩ dX7_rising_23
def wp_X7_rising_104 (Q : Int → Prop) (k0 : Int) : Prop := Q k0
set_option maxHeartbeats 4000000 in
set_option maxRecDepth 100000 in
theorem s_X7_rising_104 {X : Cx} (g : Gd X cX7_rising RX7 (some .long) 10) (hR : X.R = rmL 3 0 0) (hX7 : Nat) (aX7_above : Nat) (aX7_below : Nat) (hX3 : Nat) (hX2 : Nat) (hX1 : Nat) (hX6 : Nat) (hX0 : Nat) (hX5 : Nat) (Q : Int → Prop) (hF : FQ X 0 0 (po_X7_rising X.cI X.cJ hX7 aX7_above aX7_below hX3 hX2 hX1 hX6 hX0 hX5 Q)) : ∀ (k0 : Int), r64 k0 → wp_X7_rising_104 Q k0 → Wat X 0 0 104 [] [.long (i64 k0)] [(hX7, .inr (6, [.ref aX7_above, .ref aX7_below, .ref hX3, .ref hX2, .ref hX1, .ref hX6, .ref hX0, .ref hX5]))] := by
  intro k0 r_k0 h
  rw [wp_X7_rising_104] at h
  exact q_lret g hF ⟨k0, rfl, rfl, r_k0, h⟩ dX7_rising_104
def wp_X7_rising_32 (Q : Int → Prop) : Nat → Int → Int → Int → Int → Int → Prop
  | 0, _, _, _, _, _ => False
  | n + 1, l1, l2, l3, l5, l7 => ((l1 < l7 → ((¬ l2 = 0 → ((¬ l2 = 1 → wp_X7_rising_104 Q l5) ∧
  (l2 = 1 → (0 < l5 ∧ wp_X7_rising_104 Q (l3.tmod l5))))) ∧
  (l2 = 0 → (0 < l5 ∧ Q (l3.tdiv l5))))) ∧
  (¬ (l1 < l7) → (r64 (l3 * l7) ∧ r64 ((l3 * l7) + l5) ∧ ∀ x46 : Int, x46 = ((l3 * l7) + l5) → r64 (l5 * l7) ∧ ∀ x53 : Int, x53 = (l5 * l7) → wp_X7_commonDivisor (fun (x58 : Int) => (0 < x58 ∧ ∀ x67 : Int, x67 = (x46.tdiv x58) → 0 < x58 ∧ ∀ x73 : Int, x73 = (x53.tdiv x58) → r32 (l7 + 1) ∧ wp_X7_rising_32 Q n l1 l2 x67 x73 (l7 + 1))) x46 x53)))
set_option maxHeartbeats 4000000 in
set_option maxRecDepth 100000 in
theorem s_X7_rising_32 {X : Cx} (g : Gd X cX7_rising RX7 (some .long) 10) (hR : X.R = rmL 3 0 0) (hX7 : Nat) (aX7_above : Nat) (aX7_below : Nat) (hX3 : Nat) (hX2 : Nat) (hX1 : Nat) (hX6 : Nat) (hX0 : Nat) (hX5 : Nat) (Q : Int → Prop) (hF : FQ X 0 0 (po_X7_rising X.cI X.cJ hX7 aX7_above aX7_below hX3 hX2 hX1 hX6 hX0 hX5 Q)) : ∀ (n : Nat) (l1 : Int) (l2 : Int) (l3 : Int) (l5 : Int) (l7 : Int), r32 l1 → r32 l2 → r64 l3 → r64 l5 → r32 l7 → wp_X7_rising_32 Q n l1 l2 l3 l5 l7 → Wat X 0 0 32 [(1, .int (i32 l1)), (2, .int (i32 l2)), (3, .long (i64 l3)), (5, .long (i64 l5)), (7, .int (i32 l7))] [] [(hX7, .inr (6, [.ref aX7_above, .ref aX7_below, .ref hX3, .ref hX2, .ref hX1, .ref hX6, .ref hX0, .ref hX5]))] := by
  intro n
  induction n with
  | zero => intro l1 l2 l3 l5 l7 r_l1 r_l2 r_l3 r_l5 r_l7 h; exact False.elim h
  | succ n ih =>
    intro l1 l2 l3 l5 l7 r_l1 r_l2 r_l3 r_l5 r_l7 h
    rw [wp_X7_rising_32] at h
    refine q_iload g 7 4 rfl dX7_rising_32 ?_
    refine q_iload_n g 1 0 rfl dX7_rising_34 ?_
    refine q_icmp_gt g (46) 81 r_l7 r_l1 (by decide) dX7_rising_35 (fun b35 => ?_) (fun b35 => ?_)
    · replace h := h.1 b35
      refine q_iload_n g 2 1 rfl dX7_rising_81 ?_
      refine q_if_ne g (8) 90 r_l2 (by decide) dX7_rising_82 (fun b82 => ?_) (fun b82 => ?_)
      · replace h := h.1 b82
        refine q_iload_n g 2 1 rfl dX7_rising_90 ?_
        refine q_iconst g (1) dX7_rising_91 ?_
        refine q_icmp_ne g (10) 102 r_l2 (r32_lit _ (by decide)) (by decide) dX7_rising_92 (fun b92 => ?_) (fun b92 => ?_)
        · replace h := h.1 b92
          refine q_lload g 5 3 rfl dX7_rising_102 ?_
          refine q_lv (lv' := []) [] rfl ?_
          exact s_X7_rising_104 g hR hX7 aX7_above aX7_below hX3 hX2 hX1 hX6 hX0 hX5 Q hF l5 r_l5 h
        replace h := h.2 b92
        refine q_lload_n g 3 2 rfl dX7_rising_95 ?_
        refine q_lload g 5 3 rfl dX7_rising_96 ?_
        obtain ⟨c98, h⟩ := h
        refine q_lrem g r_l3 r_l5 (ne_of_pos c98) dX7_rising_98 ?_
        refine q_goto g (5) 104 (by decide) dX7_rising_99 ?_
        refine q_lv (lv' := []) [] rfl ?_
        exact s_X7_rising_104 g hR hX7 aX7_above aX7_below hX3 hX2 hX1 hX6 hX0 hX5 Q hF (l3.tmod l5) (r64_tmod r_l3 r_l5 (ne_of_pos c98)) h
      replace h := h.2 b82
      refine q_lload_n g 3 2 rfl dX7_rising_85 ?_
      refine q_lload g 5 3 rfl dX7_rising_86 ?_
      obtain ⟨c88, h⟩ := h
      refine q_ldiv g r_l3 r_l5 (ne_of_pos c88) dX7_rising_88 ?_
      exact q_lret g hF ⟨(l3.tdiv l5), rfl, rfl, (r64_tdiv r_l3 c88), h⟩ dX7_rising_89
    replace h := h.2 b35
    refine q_lload_n g 3 2 rfl dX7_rising_38 ?_
    refine q_iload g 7 4 rfl dX7_rising_39 ?_
    refine q_i2l g r_l7 dX7_rising_41 ?_
    obtain ⟨c42, h⟩ := h
    refine q_lmul g dX7_rising_42 ?_
    refine q_lload g 5 3 rfl dX7_rising_43 ?_
    obtain ⟨c45, h⟩ := h
    refine q_ladd g dX7_rising_45 ?_
    refine q_topl c45 (fun x46 ex46 rx46 => ?_)
    replace h := h x46 ex46
    refine q_lstore_n (lv' := [(3, .long (i64 x46)), (1, .int (i32 l1)), (2, .int (i32 l2)), (5, .long (i64 l5)), (7, .int (i32 l7))]) g 3 3 rfl (by decide) rfl dX7_rising_46 ?_
    refine q_lload g 5 3 rfl dX7_rising_47 ?_
    refine q_iload g 7 4 rfl dX7_rising_49 ?_
    refine q_i2l g r_l7 dX7_rising_51 ?_
    obtain ⟨c52, h⟩ := h
    refine q_lmul g dX7_rising_52 ?_
    refine q_topl c52 (fun x53 ex53 rx53 => ?_)
    replace h := h x53 ex53
    refine q_lstore (lv' := [(5, .long (i64 x53)), (3, .long (i64 x46)), (1, .int (i32 l1)), (2, .int (i32 l2)), (7, .int (i32 l7))]) g 5   (by decide) rfl dX7_rising_53 ?_
    refine q_lload_n g 3 1 rfl dX7_rising_55 ?_
    refine q_lload g 5 0 rfl dX7_rising_56 ?_
    refine q_callS (lev := 2) (mc := 0) (ms := 0) (As := [.long (i64 x46), .long (i64 x53)]) g 176 (c_X7_commonDivisor X.l X.D X.cI X.cJ X.zt x46 x53 _ rx46 rx53 h) (wr := [(hX7, .inr (6, [.ref aX7_above, .ref aX7_below, .ref hX3, .ref hX2, .ref hX1, .ref hX6, .ref hX0, .ref hX5]))]) [] [0] rfl rfl rfl (by decide) (by decide) (by decide) wM_X7_176 wT_X7_commonDivisor wZ_X7 wC_X7_commonDivisor 2 rfl (by decide +kernel) (by rw [hR]; exact ⟨by show 2 + 1 ≤ 3; omega, by show 8 + (11 + 11) + 100 * 2 ≤ 100 * 3; omega⟩) (by rw [hR]; exact ⟨Nat.le_refl _, Nat.le_refl _⟩) (Nat.le_of_ble_eq_true rfl) rfl dX7_rising_58 (fun rv w1 hq => ?_)
    obtain ⟨x58, rfl, rfl, rx58, h⟩ := hq
    show Wat X 0 0 61 [(5, .long (i64 x53)), (3, .long (i64 x46)), (1, .int (i32 l1)), (2, .int (i32 l2)), (7, .int (i32 l7))] [.long (i64 x58)] [(hX7, .inr (6, [.ref aX7_above, .ref aX7_below, .ref hX3, .ref hX2, .ref hX1, .ref hX6, .ref hX0, .ref hX5]))]
    refine q_lstore (lv' := [(8, .long (i64 x58)), (5, .long (i64 x53)), (3, .long (i64 x46)), (1, .int (i32 l1)), (2, .int (i32 l2)), (7, .int (i32 l7))]) g 8   (by decide) rfl dX7_rising_61 ?_
    refine q_lload_n g 3 2 rfl dX7_rising_63 ?_
    refine q_lload g 8 0 rfl dX7_rising_64 ?_
    obtain ⟨c66, h⟩ := h
    refine q_ldiv g rx46 rx58 (ne_of_pos c66) dX7_rising_66 ?_
    refine q_topl (r64_tdiv rx46 c66) (fun x67 ex67 rx67 => ?_)
    replace h := h x67 ex67
    refine q_lstore_n (lv' := [(3, .long (i64 x67)), (8, .long (i64 x58)), (5, .long (i64 x53)), (1, .int (i32 l1)), (2, .int (i32 l2)), (7, .int (i32 l7))]) g 3 3 rfl (by decide) rfl dX7_rising_67 ?_
    refine q_lload g 5 2 rfl dX7_rising_68 ?_
    refine q_lload g 8 1 rfl dX7_rising_70 ?_
    obtain ⟨c72, h⟩ := h
    refine q_ldiv g rx53 rx58 (ne_of_pos c72) dX7_rising_72 ?_
    refine q_topl (r64_tdiv rx53 c72) (fun x73 ex73 rx73 => ?_)
    replace h := h x73 ex73
    refine q_lstore (lv' := [(5, .long (i64 x73)), (3, .long (i64 x67)), (8, .long (i64 x58)), (1, .int (i32 l1)), (2, .int (i32 l2)), (7, .int (i32 l7))]) g 5   (by decide) rfl dX7_rising_73 ?_
    obtain ⟨c75, h⟩ := h
    refine q_iinc (lv' := [(7, .int (i32 (l7 + 1))), (5, .long (i64 x73)), (3, .long (i64 x67)), (8, .long (i64 x58)), (1, .int (i32 l1)), (2, .int (i32 l2))]) g 7 5 1 (by decide) rfl rfl dX7_rising_75 ?_
    refine q_goto g (-46) 32 (by decide) dX7_rising_78 ?_
    refine q_lv (lv' := [(1, .int (i32 l1)), (2, .int (i32 l2)), (3, .long (i64 x67)), (5, .long (i64 x73)), (7, .int (i32 (l7 + 1)))]) [4, 5, 2, 1, 0] rfl ?_
    exact ih l1 l2 x67 x73 (l7 + 1) r_l1 r_l2 rx67 rx73 c75 h
def wp_X7_rising (Q : Int → Prop) (l1 : Int) (l2 : Int) : Prop := ((l1 < 2 → wp_X7_rising_20 Q) ∧
  (¬ (l1 < 2) → ((30 < l1 → wp_X7_rising_20 Q) ∧
  (¬ (30 < l1) → ((l2 < 0 → wp_X7_rising_20 Q) ∧
  (¬ (l2 < 0) → ((l2 ≤ 2 → (∃ n0 : Nat, wp_X7_rising_32 Q n0 l1 l2 0 1 2)) ∧
  (¬ (l2 ≤ 2) → wp_X7_rising_20 Q))))))))
set_option maxHeartbeats 4000000 in
set_option maxRecDepth 100000 in
theorem c_X7_rising (l : Launch) (D : va_G) (cI cJ : ClassId) (zt : Nat) (hX7 : Nat) (aX7_above : Nat) (aX7_below : Nat) (hX3 : Nat) (hX2 : Nat) (hX1 : Nat) (hX6 : Nat) (hX0 : Nat) (hX5 : Nat) (l1 : Int) (l2 : Int) (Q : Int → Prop) (r_l1 : r32 l1) (r_l2 : r32 l2) (h : wp_X7_rising Q l1 l2) : Ct l D cI cJ zt yX7_rising cX7_rising 10 (some .long) 3 0 0 [.ref hX7, .int (i32 l1), .int (i32 l2)] [(hX7, .inr (6, [.ref aX7_above, .ref aX7_below, .ref hX3, .ref hX2, .ref hX1, .ref hX6, .ref hX0, .ref hX5]))] (po_X7_rising cI cJ hX7 aX7_above aX7_below hX3 hX2 hX1 hX6 hX0 hX5 Q) := by
  refine ct_of (by decide +kernel) (Nat.le_of_ble_eq_true rfl) (fun X hl hDD hcI hcJ hzt hR hF hnm g => ?_)
  subst hl; subst hDD; subst hcI; subst hcJ; subst hzt
  show Wat X 0 0 0 [(0, .ref hX7), (1, .int (i32 l1)), (2, .int (i32 l2))] [] [(hX7, .inr (6, [.ref aX7_above, .ref aX7_below, .ref hX3, .ref hX2, .ref hX1, .ref hX6, .ref hX0, .ref hX5]))]
  replace g : Gd X cX7_rising RX7 (some .long) 10 := g
  rw [wp_X7_rising] at h
  refine q_iload_n g 1 1 rfl dX7_rising_0 ?_
  refine q_iconst g (2) dX7_rising_1 ?_
  refine q_icmp_lt g (18) 20 r_l1 (r32_lit _ (by decide)) (by decide) dX7_rising_2 (fun b2 => ?_) (fun b2 => ?_)
  · replace h := h.1 b2
    refine q_lv (lv' := []) [] rfl ?_
    exact s_X7_rising_20 g hR hX7 aX7_above aX7_below hX3 hX2 hX1 hX6 hX0 hX5 Q hF h
  replace h := h.2 b2
  refine q_iload_n g 1 1 rfl dX7_rising_5 ?_
  refine q_bipush g (30) (by decide) (by decide) dX7_rising_6 ?_
  refine q_icmp_gt g (12) 20 r_l1 (r32_lit _ (by decide)) (by decide) dX7_rising_8 (fun b8 => ?_) (fun b8 => ?_)
  · replace h := h.1 b8
    refine q_lv (lv' := []) [] rfl ?_
    exact s_X7_rising_20 g hR hX7 aX7_above aX7_below hX3 hX2 hX1 hX6 hX0 hX5 Q hF h
  replace h := h.2 b8
  refine q_iload_n g 2 2 rfl dX7_rising_11 ?_
  refine q_if_lt g (8) 20 r_l2 (by decide) dX7_rising_12 (fun b12 => ?_) (fun b12 => ?_)
  · replace h := h.1 b12
    refine q_lv (lv' := []) [] rfl ?_
    exact s_X7_rising_20 g hR hX7 aX7_above aX7_below hX3 hX2 hX1 hX6 hX0 hX5 Q hF h
  replace h := h.2 b12
  refine q_iload_n g 2 2 rfl dX7_rising_15 ?_
  refine q_iconst g (2) dX7_rising_16 ?_
  refine q_icmp_le g (7) 24 r_l2 (r32_lit _ (by decide)) (by decide) dX7_rising_17 (fun b17 => ?_) (fun b17 => ?_)
  · replace h := h.1 b17
    refine q_lconst g 0 0 rfl dX7_rising_24 ?_
    refine q_lstore_n (lv' := [(3, .long (i64 0)), (0, .ref hX7), (1, .int (i32 l1)), (2, .int (i32 l2))]) g 3 3 rfl (by decide) rfl dX7_rising_25 ?_
    refine q_lconst g 1 1 rfl dX7_rising_26 ?_
    refine q_lstore (lv' := [(5, .long (i64 1)), (3, .long (i64 0)), (0, .ref hX7), (1, .int (i32 l1)), (2, .int (i32 l2))]) g 5   (by decide) rfl dX7_rising_27 ?_
    refine q_iconst g (2) dX7_rising_29 ?_
    refine q_istore (lv' := [(7, .int (i32 2)), (5, .long (i64 1)), (3, .long (i64 0)), (0, .ref hX7), (1, .int (i32 l1)), (2, .int (i32 l2))]) g 7   (by decide) rfl dX7_rising_30 ?_
    refine q_lv (lv' := [(1, .int (i32 l1)), (2, .int (i32 l2)), (3, .long (i64 0)), (5, .long (i64 1)), (7, .int (i32 2))]) [4, 5, 2, 1, 0] rfl ?_
    obtain ⟨n0, h⟩ := h
    exact s_X7_rising_32 g hR hX7 aX7_above aX7_below hX3 hX2 hX1 hX6 hX0 hX5 Q hF n0 l1 l2 0 1 2 r_l1 r_l2 (r64_lit _ (by decide)) (r64_lit _ (by decide)) (r32_lit _ (by decide)) h
  replace h := h.2 b17
  refine q_lv (lv' := []) [] rfl ?_
  exact s_X7_rising_20 g hR hX7 aX7_above aX7_below hX3 hX2 hX1 hX6 hX0 hX5 Q hF h
theorem dX7_firstAbove_0 : decode cX7_firstAbove 0 = .ok (.iload_n 1, 1) := by decide +kernel
theorem dX7_firstAbove_1 : decode cX7_firstAbove 1 = .ok (.iconst 1, 1) := by decide +kernel
theorem dX7_firstAbove_2 : decode cX7_firstAbove 2 = .ok (.if_icmp .lt 8, 3) := by decide +kernel
theorem dX7_firstAbove_5 : decode cX7_firstAbove 5 = .ok (.iload_n 1, 1) := by decide +kernel
theorem dX7_firstAbove_6 : decode cX7_firstAbove 6 = .ok (.iconst 2, 1) := by decide +kernel
theorem dX7_firstAbove_7 : decode cX7_firstAbove 7 = .ok (.if_icmp .le 5, 3) := by decide +kernel
theorem dX7_firstAbove_10 : decode cX7_firstAbove 10 = .ok (.iconst (-1), 1) := by decide +kernel
theorem dX7_firstAbove_11 : decode cX7_firstAbove 11 = .ok (.ireturn, 1) := by decide +kernel
theorem dX7_firstAbove_12 : decode cX7_firstAbove 12 = .ok (.iconst 2, 1) := by decide +kernel
theorem dX7_firstAbove_13 : decode cX7_firstAbove 13 = .ok (.istore_n 2, 1) := by decide +kernel
theorem dX7_firstAbove_14 : decode cX7_firstAbove 14 = .ok (.iload_n 2, 1) := by decide +kernel
theorem dX7_firstAbove_15 : decode cX7_firstAbove 15 = .ok (.bipush 30, 2) := by decide +kernel
theorem dX7_firstAbove_17 : decode cX7_firstAbove 17 = .ok (.if_icmp .ge 23, 3) := by decide +kernel
theorem dX7_firstAbove_20 : decode cX7_firstAbove 20 = .ok (.aload_n 0, 1) := by decide +kernel
theorem dX7_firstAbove_21 : decode cX7_firstAbove 21 = .ok (.iload_n 2, 1) := by decide +kernel
theorem dX7_firstAbove_22 : decode cX7_firstAbove 22 = .ok (.iconst 0, 1) := by decide +kernel
theorem dX7_firstAbove_23 : decode cX7_firstAbove 23 = .ok (.invokevirtual 180, 3) := by decide +kernel
theorem dX7_firstAbove_26 : decode cX7_firstAbove 26 = .ok (.iload_n 1, 1) := by decide +kernel
theorem dX7_firstAbove_27 : decode cX7_firstAbove 27 = .ok (.i2l, 1) := by decide +kernel
theorem dX7_firstAbove_28 : decode cX7_firstAbove 28 = .ok (.lcmp, 1) := by decide +kernel
theorem dX7_firstAbove_29 : decode cX7_firstAbove 29 = .ok (.ifCond .lt 5, 3) := by decide +kernel
theorem dX7_firstAbove_32 : decode cX7_firstAbove 32 = .ok (.iload_n 2, 1) := by decide +kernel
theorem dX7_firstAbove_33 : decode cX7_firstAbove 33 = .ok (.ireturn, 1) := by decide +kernel
theorem dX7_firstAbove_34 : decode cX7_firstAbove 34 = .ok (.iinc 2 1, 3) := by decide +kernel
theorem dX7_firstAbove_37 : decode cX7_firstAbove 37 = .ok (.goto (-23), 3) := by decide +kernel
theorem dX7_firstAbove_40 : decode cX7_firstAbove 40 = .ok (.bipush 30, 2) := by decide +kernel
theorem dX7_firstAbove_42 : decode cX7_firstAbove 42 = .ok (.ireturn, 1) := by decide +kernel
abbrev po_X7_firstAbove (cI cJ : ClassId) (hX7 : Nat) (aX7_above : Nat) (aX7_below : Nat) (hX3 : Nat) (hX2 : Nat) (hX1 : Nat) (hX6 : Nat) (hX0 : Nat) (hX5 : Nat) (Q : Int → Prop) : Option Value → va_W → Prop := fun rv w1 => ∃ (r0 : Int), rv = some (.int (i32 r0)) ∧ w1 = [(hX7, .inr (6, [.ref aX7_above, .ref aX7_below, .ref hX3, .ref hX2, .ref hX1, .ref hX6, .ref hX0, .ref hX5]))] ∧ r32 r0 ∧ Q r0
def wp_X7_firstAbove_10 (Q : Int → Prop) : Prop := Q (-1)
set_option maxHeartbeats 4000000 in
set_option maxRecDepth 100000 in
theorem s_X7_firstAbove_10 {X : Cx} (g : Gd X cX7_firstAbove RX7 (some .int) 3) (hR : X.R = rmL 4 0 0) (hX7 : Nat) (aX7_above : Nat) (aX7_below : Nat) (hX3 : Nat) (hX2 : Nat) (hX1 : Nat) (hX6 : Nat) (hX0 : Nat) (hX5 : Nat) (Q : Int → Prop) (hF : FQ X 0 0 (po_X7_firstAbove X.cI X.cJ hX7 aX7_above aX7_below hX3 hX2 hX1 hX6 hX0 hX5 Q)) : wp_X7_firstAbove_10 Q → Wat X 0 0 10 [] [] [(hX7, .inr (6, [.ref aX7_above, .ref aX7_below, .ref hX3, .ref hX2, .ref hX1, .ref hX6, .ref hX0, .ref hX5]))] := by
  intro h
  rw [wp_X7_firstAbove_10] at h
  refine q_iconst g (-1) dX7_firstAbove_10 ?_
  exact q_iret g hF ⟨(-1), rfl, rfl, (r32_lit _ (by decide)), h⟩ dX7_firstAbove_11
def wp_X7_firstAbove_14 (Q : Int → Prop) : Nat → Int → Int → Prop
  | 0, _, _ => False
  | n + 1, l1, l2 => ((30 ≤ l2 → Q 30) ∧
  (¬ (30 ≤ l2) → wp_X7_rising (fun (x23 : Int) => ((x23 < l1 → (r32 (l2 + 1) ∧ wp_X7_firstAbove_14 Q n l1 (l2 + 1))) ∧
  (¬ (x23 < l1) → Q l2))) l2 0))
set_option maxHeartbeats 4000000 in
set_option maxRecDepth 100000 in
theorem s_X7_firstAbove_14 {X : Cx} (g : Gd X cX7_firstAbove RX7 (some .int) 3) (hR : X.R = rmL 4 0 0) (hX7 : Nat) (aX7_above : Nat) (aX7_below : Nat) (hX3 : Nat) (hX2 : Nat) (hX1 : Nat) (hX6 : Nat) (hX0 : Nat) (hX5 : Nat) (Q : Int → Prop) (hF : FQ X 0 0 (po_X7_firstAbove X.cI X.cJ hX7 aX7_above aX7_below hX3 hX2 hX1 hX6 hX0 hX5 Q)) : ∀ (n : Nat) (l1 : Int) (l2 : Int), r32 l1 → r32 l2 → wp_X7_firstAbove_14 Q n l1 l2 → Wat X 0 0 14 [(0, .ref hX7), (1, .int (i32 l1)), (2, .int (i32 l2))] [] [(hX7, .inr (6, [.ref aX7_above, .ref aX7_below, .ref hX3, .ref hX2, .ref hX1, .ref hX6, .ref hX0, .ref hX5]))] := by
  intro n
  induction n with
  | zero => intro l1 l2 r_l1 r_l2 h; exact False.elim h
  | succ n ih =>
    intro l1 l2 r_l1 r_l2 h
    rw [wp_X7_firstAbove_14] at h
    refine q_iload_n g 2 2 rfl dX7_firstAbove_14 ?_
    refine q_bipush g (30) (by decide) (by decide) dX7_firstAbove_15 ?_
    refine q_icmp_ge g (23) 40 r_l2 (r32_lit _ (by decide)) (by decide) dX7_firstAbove_17 (fun b17 => ?_) (fun b17 => ?_)
    · replace h := h.1 b17
      refine q_bipush g (30) (by decide) (by decide) dX7_firstAbove_40 ?_
      exact q_iret g hF ⟨30, rfl, rfl, (r32_lit _ (by decide)), h⟩ dX7_firstAbove_42
    replace h := h.2 b17
    refine q_aload_n g 0 0 rfl dX7_firstAbove_20 ?_
    refine q_iload_n g 2 2 rfl dX7_firstAbove_21 ?_
    refine q_iconst g (0) dX7_firstAbove_22 ?_
    refine q_callV (lev := 3) (mc := 0) (ms := 0) g 180 (c_X7_rising X.l X.D X.cI X.cJ X.zt hX7 aX7_above aX7_below hX3 hX2 hX1 hX6 hX0 hX5 l2 0 _ r_l2 (r32_lit _ (by decide)) h) (wr := []) [0] [] rfl rfl rfl (by decide) (by decide) (by decide) (ci := 6) rfl rfl rfl wM_X7_180 wI_X7_rising wS_X7_rising wZ_X7 wC_X7_rising 2 rfl (by decide +kernel) (by rw [hR]; exact ⟨by show 3 + 1 ≤ 4; omega, by show 8 + (10 + 11) + 100 * 3 ≤ 100 * 4; omega⟩) (by rw [hR]; exact ⟨Nat.le_refl _, Nat.le_refl _⟩) (Nat.le_of_ble_eq_true rfl) rfl dX7_firstAbove_23 (fun rv w1 hq => ?_)
    obtain ⟨x23, rfl, rfl, rx23, h⟩ := hq
    show Wat X 0 0 26 [(0, .ref hX7), (1, .int (i32 l1)), (2, .int (i32 l2))] [.long (i64 x23)] [(hX7, .inr (6, [.ref aX7_above, .ref aX7_below, .ref hX3, .ref hX2, .ref hX1, .ref hX6, .ref hX0, .ref hX5]))]
    refine q_iload_n g 1 1 rfl dX7_firstAbove_26 ?_
    refine q_i2l g r_l1 dX7_firstAbove_27 ?_
    refine q_lcmp_lt g (5) 34 rx23 (r32_64 r_l1) (by decide) dX7_firstAbove_28 dX7_firstAbove_29 (fun b28 => ?_) (fun b28 => ?_)
    · replace h := h.1 b28
      obtain ⟨c34, h⟩ := h
      refine q_iinc (lv' := [(2, .int (i32 (l2 + 1))), (0, .ref hX7), (1, .int (i32 l1))]) g 2 2 1 (by decide) rfl rfl dX7_firstAbove_34 ?_
      refine q_goto g (-23) 14 (by decide) dX7_firstAbove_37 ?_
      refine q_lv (lv' := [(0, .ref hX7), (1, .int (i32 l1)), (2, .int (i32 (l2 + 1)))]) [1, 2, 0] rfl ?_
      exact ih l1 (l2 + 1) r_l1 c34 h
    replace h := h.2 b28
    refine q_iload_n g 2 2 rfl dX7_firstAbove_32 ?_
    exact q_iret g hF ⟨l2, rfl, rfl, r_l2, h⟩ dX7_firstAbove_33
def wp_X7_firstAbove (Q : Int → Prop) (l1 : Int) : Prop := ((l1 < 1 → wp_X7_firstAbove_10 Q) ∧
  (¬ (l1 < 1) → ((l1 ≤ 2 → (∃ n0 : Nat, wp_X7_firstAbove_14 Q n0 l1 2)) ∧
  (¬ (l1 ≤ 2) → wp_X7_firstAbove_10 Q))))
set_option maxHeartbeats 4000000 in
set_option maxRecDepth 100000 in
theorem c_X7_firstAbove (l : Launch) (D : va_G) (cI cJ : ClassId) (zt : Nat) (hX7 : Nat) (aX7_above : Nat) (aX7_below : Nat) (hX3 : Nat) (hX2 : Nat) (hX1 : Nat) (hX6 : Nat) (hX0 : Nat) (hX5 : Nat) (l1 : Int) (Q : Int → Prop) (r_l1 : r32 l1) (h : wp_X7_firstAbove Q l1) : Ct l D cI cJ zt yX7_firstAbove cX7_firstAbove 3 (some .int) 4 0 0 [.ref hX7, .int (i32 l1)] [(hX7, .inr (6, [.ref aX7_above, .ref aX7_below, .ref hX3, .ref hX2, .ref hX1, .ref hX6, .ref hX0, .ref hX5]))] (po_X7_firstAbove cI cJ hX7 aX7_above aX7_below hX3 hX2 hX1 hX6 hX0 hX5 Q) := by
  refine ct_of (by decide +kernel) (Nat.le_of_ble_eq_true rfl) (fun X hl hDD hcI hcJ hzt hR hF hnm g => ?_)
  subst hl; subst hDD; subst hcI; subst hcJ; subst hzt
  show Wat X 0 0 0 [(0, .ref hX7), (1, .int (i32 l1))] [] [(hX7, .inr (6, [.ref aX7_above, .ref aX7_below, .ref hX3, .ref hX2, .ref hX1, .ref hX6, .ref hX0, .ref hX5]))]
  replace g : Gd X cX7_firstAbove RX7 (some .int) 3 := g
  rw [wp_X7_firstAbove] at h
  refine q_iload_n g 1 1 rfl dX7_firstAbove_0 ?_
  refine q_iconst g (1) dX7_firstAbove_1 ?_
  refine q_icmp_lt g (8) 10 r_l1 (r32_lit _ (by decide)) (by decide) dX7_firstAbove_2 (fun b2 => ?_) (fun b2 => ?_)
  · replace h := h.1 b2
    refine q_lv (lv' := []) [] rfl ?_
    exact s_X7_firstAbove_10 g hR hX7 aX7_above aX7_below hX3 hX2 hX1 hX6 hX0 hX5 Q hF h
  replace h := h.2 b2
  refine q_iload_n g 1 1 rfl dX7_firstAbove_5 ?_
  refine q_iconst g (2) dX7_firstAbove_6 ?_
  refine q_icmp_le g (5) 12 r_l1 (r32_lit _ (by decide)) (by decide) dX7_firstAbove_7 (fun b7 => ?_) (fun b7 => ?_)
  · replace h := h.1 b7
    refine q_iconst g (2) dX7_firstAbove_12 ?_
    refine q_istore_n (lv' := [(2, .int (i32 2)), (0, .ref hX7), (1, .int (i32 l1))]) g 2 2 rfl (by decide) rfl dX7_firstAbove_13 ?_
    refine q_lv (lv' := [(0, .ref hX7), (1, .int (i32 l1)), (2, .int (i32 2))]) [1, 2, 0] rfl ?_
    obtain ⟨n0, h⟩ := h
    exact s_X7_firstAbove_14 g hR hX7 aX7_above aX7_below hX3 hX2 hX1 hX6 hX0 hX5 Q hF n0 l1 2 r_l1 (r32_lit _ (by decide)) h
  replace h := h.2 b7
  refine q_lv (lv' := []) [] rfl ?_
  exact s_X7_firstAbove_10 g hR hX7 aX7_above aX7_below hX3 hX2 hX1 hX6 hX0 hX5 Q hF h
theorem dX7_follow_0 : decode cX7_follow 0 = .ok (.iload_n 2, 1) := by decide +kernel
theorem dX7_follow_1 : decode cX7_follow 1 = .ok (.ifCond .le 19, 3) := by decide +kernel
theorem dX7_follow_4 : decode cX7_follow 4 = .ok (.iload_n 2, 1) := by decide +kernel
theorem dX7_follow_5 : decode cX7_follow 5 = .ok (.iload_n 3, 1) := by decide +kernel
theorem dX7_follow_6 : decode cX7_follow 6 = .ok (.if_icmp .ge 14, 3) := by decide +kernel
theorem dX7_follow_9 : decode cX7_follow 9 = .ok (.iload_n 1, 1) := by decide +kernel
theorem dX7_follow_10 : decode cX7_follow 10 = .ok (.iconst 1, 1) := by decide +kernel
theorem dX7_follow_11 : decode cX7_follow 11 = .ok (.if_icmp .ne 12, 3) := by decide +kernel
theorem dX7_follow_14 : decode cX7_follow 14 = .ok (.iload_n 3, 1) := by decide +kernel
theorem dX7_follow_15 : decode cX7_follow 15 = .ok (.iconst 2, 1) := by decide +kernel
theorem dX7_follow_16 : decode cX7_follow 16 = .ok (.irem, 1) := by decide +kernel
theorem dX7_follow_17 : decode cX7_follow 17 = .ok (.ifCond .ne 6, 3) := by decide +kernel
theorem dX7_follow_20 : decode cX7_follow 20 = .ok (.bipush (-2), 2) := by decide +kernel
theorem dX7_follow_22 : decode cX7_follow 22 = .ok (.ireturn, 1) := by decide +kernel
theorem dX7_follow_23 : decode cX7_follow 23 = .ok (.aload_n 0, 1) := by decide +kernel
theorem dX7_follow_24 : decode cX7_follow 24 = .ok (.getfield 19, 3) := by decide +kernel
theorem dX7_follow_27 : decode cX7_follow 27 = .ok (.iload_n 1, 1) := by decide +kernel
theorem dX7_follow_28 : decode cX7_follow 28 = .ok (.iload_n 2, 1) := by decide +kernel
theorem dX7_follow_29 : decode cX7_follow 29 = .ok (.i2l, 1) := by decide +kernel
theorem dX7_follow_30 : decode cX7_follow 30 = .ok (.iload_n 3, 1) := by decide +kernel
theorem dX7_follow_31 : decode cX7_follow 31 = .ok (.i2l, 1) := by decide +kernel
theorem dX7_follow_32 : decode cX7_follow 32 = .ok (.invokevirtual 199, 3) := by decide +kernel
theorem dX7_follow_35 : decode cX7_follow 35 = .ok (.ireturn, 1) := by decide +kernel
abbrev po_X7_follow (cI cJ : ClassId) (hX7 : Nat) (aX7_above : Nat) (aX7_below : Nat) (hX3 : Nat) (hX2 : Nat) (hX1 : Nat) (hX6 : Nat) (hX0 : Nat) (hX5 : Nat) (aX3_shares : Nat) (Q : Int → (Int → Int) → Int → Prop) : Option Value → va_W → Prop := fun rv w1 => ∃ (r0 : Int) (r_shares : Int → Int) (r_size : Int), rv = some (.int (i32 r0)) ∧ w1 = [(hX7, .inr (6, [.ref aX7_above, .ref aX7_below, .ref hX3, .ref hX2, .ref hX1, .ref hX6, .ref hX0, .ref hX5])), (hX3, .inr (3, [.ref aX3_shares, .int (i32 r_size)])), (aX3_shares, aL cJ 16 r_shares)] ∧ r32 r0 ∧ rr64 r_shares ∧ r32 r_size ∧ Q r0 r_shares r_size
def wp_X7_follow_20 (Q : Int → (Int → Int) → Int → Prop) (r_shares : Int → Int) (r_size : Int) : Prop := Q (-2) r_shares r_size
set_option maxHeartbeats 4000000 in
set_option maxRecDepth 100000 in
theorem s_X7_follow_20 {X : Cx} (g : Gd X cX7_follow RX7 (some .int) 4) (hR : X.R = rmL 6 0 0) (hX7 : Nat) (aX7_above : Nat) (aX7_below : Nat) (hX3 : Nat) (hX2 : Nat) (hX1 : Nat) (hX6 : Nat) (hX0 : Nat) (hX5 : Nat) (aX3_shares : Nat) (Q : Int → (Int → Int) → Int → Prop) (hF : FQ X 0 0 (po_X7_follow X.cI X.cJ hX7 aX7_above aX7_below hX3 hX2 hX1 hX6 hX0 hX5 aX3_shares Q)) : ∀ (r_shares : Int → Int) (r_size : Int), rr64 r_shares → r32 r_size → wp_X7_follow_20 Q r_shares r_size → Wat X 0 0 20 [] [] [(hX7, .inr (6, [.ref aX7_above, .ref aX7_below, .ref hX3, .ref hX2, .ref hX1, .ref hX6, .ref hX0, .ref hX5])), (hX3, .inr (3, [.ref aX3_shares, .int (i32 r_size)])), (aX3_shares, aL X.cJ 16 r_shares)] := by
  intro r_shares r_size r_r_shares r_r_size h
  rw [wp_X7_follow_20] at h
  refine q_bipush g (-2) (by decide) (by decide) dX7_follow_20 ?_
  exact q_iret g hF ⟨(-2), r_shares, r_size, rfl, rfl, (r32_lit _ (by decide)), r_r_shares, r_r_size, h⟩ dX7_follow_22
def wp_X7_follow_23 (Q : Int → (Int → Int) → Int → Prop) (r_shares : Int → Int) (r_size : Int) (l1 : Int) (l2 : Int) (l3 : Int) : Prop := wp_X3_walk (fun (x32 : Int) (r_shares_32 : Int → Int) (r_size_32 : Int) => Q x32 r_shares_32 r_size_32) r_shares r_size l1 l2 l3
set_option maxHeartbeats 4000000 in
set_option maxRecDepth 100000 in
theorem s_X7_follow_23 {X : Cx} (g : Gd X cX7_follow RX7 (some .int) 4) (hR : X.R = rmL 6 0 0) (hX7 : Nat) (aX7_above : Nat) (aX7_below : Nat) (hX3 : Nat) (hX2 : Nat) (hX1 : Nat) (hX6 : Nat) (hX0 : Nat) (hX5 : Nat) (aX3_shares : Nat) (Q : Int → (Int → Int) → Int → Prop) (hF : FQ X 0 0 (po_X7_follow X.cI X.cJ hX7 aX7_above aX7_below hX3 hX2 hX1 hX6 hX0 hX5 aX3_shares Q)) : ∀ (r_shares : Int → Int) (r_size : Int) (l1 : Int) (l2 : Int) (l3 : Int), rr64 r_shares → r32 r_size → r32 l1 → r32 l2 → r32 l3 → wp_X7_follow_23 Q r_shares r_size l1 l2 l3 → Wat X 0 0 23 [(0, .ref hX7), (1, .int (i32 l1)), (2, .int (i32 l2)), (3, .int (i32 l3))] [] [(hX7, .inr (6, [.ref aX7_above, .ref aX7_below, .ref hX3, .ref hX2, .ref hX1, .ref hX6, .ref hX0, .ref hX5])), (hX3, .inr (3, [.ref aX3_shares, .int (i32 r_size)])), (aX3_shares, aL X.cJ 16 r_shares)] := by
  intro r_shares r_size l1 l2 l3 r_r_shares r_r_size r_l1 r_l2 r_l3 h
  rw [wp_X7_follow_23] at h
  refine q_aload_n g 0 0 rfl dX7_follow_23 ?_
  refine q_get (C := RX7) (T := TX7) (N := 8) g 19 inX7 0 2 rfl rfl (by decide) wF_X7_19 rfl dX7_follow_24 ?_
  refine q_iload_n g 1 1 rfl dX7_follow_27 ?_
  refine q_iload_n g 2 2 rfl dX7_follow_28 ?_
  refine q_i2l g r_l2 dX7_follow_29 ?_
  refine q_iload_n g 3 3 rfl dX7_follow_30 ?_
  refine q_i2l g r_l3 dX7_follow_31 ?_
  refine q_callV (lev := 5) (mc := 0) (ms := 0) g 199 (c_X3_walk X.l X.D X.cI X.cJ X.zt hX3 aX3_shares r_size r_shares l1 l2 l3 _ r_r_shares r_r_size r_l1 (r32_64 r_l2) (r32_64 r_l3) h) (wr := [(hX7, .inr (6, [.ref aX7_above, .ref aX7_below, .ref hX3, .ref hX2, .ref hX1, .ref hX6, .ref hX0, .ref hX5]))]) [1, 2] [0] rfl rfl rfl (by decide) (by decide) (by decide) (ci := 3) rfl rfl rfl wM_X7_199 wI_X3_walk wS_X3_walk wZ_X3 wC_X3_walk 3 rfl (by decide +kernel) (by rw [hR]; exact ⟨by show 5 + 1 ≤ 6; omega, by show 8 + (6 + 11) + 100 * 5 ≤ 100 * 6; omega⟩) (by rw [hR]; exact ⟨Nat.le_refl _, Nat.le_refl _⟩) (Nat.le_of_ble_eq_true rfl) rfl dX7_follow_32 (fun rv w1 hq => ?_)
  obtain ⟨x32, r_shares_32, r_size_32, rfl, rfl, rx32, rr_shares_32, rr_size_32, h⟩ := hq
  show Wat X 0 0 35 [(0, .ref hX7), (1, .int (i32 l1)), (2, .int (i32 l2)), (3, .int (i32 l3))] [.int (i32 x32)] [(hX7, .inr (6, [.ref aX7_above, .ref aX7_below, .ref hX3, .ref hX2, .ref hX1, .ref hX6, .ref hX0, .ref hX5])), (hX3, .inr (3, [.ref aX3_shares, .int (i32 r_size_32)])), (aX3_shares, aL X.cJ 16 r_shares_32)]
  exact q_iret g hF ⟨x32, r_shares_32, r_size_32, rfl, rfl, rx32, rr_shares_32, rr_size_32, h⟩ dX7_follow_35
def wp_X7_follow (Q : Int → (Int → Int) → Int → Prop) (r_shares : Int → Int) (r_size : Int) (l1 : Int) (l2 : Int) (l3 : Int) : Prop := ((l2 ≤ 0 → wp_X7_follow_20 Q r_shares r_size) ∧
  (¬ (l2 ≤ 0) → ((l3 ≤ l2 → wp_X7_follow_20 Q r_shares r_size) ∧
  (¬ (l3 ≤ l2) → ((¬ l1 = 1 → wp_X7_follow_23 Q r_shares r_size l1 l2 l3) ∧
  (l1 = 1 → ((¬ (l3.tmod 2) = 0 → wp_X7_follow_23 Q r_shares r_size l1 l2 l3) ∧
  ((l3.tmod 2) = 0 → wp_X7_follow_20 Q r_shares r_size))))))))
set_option maxHeartbeats 4000000 in
set_option maxRecDepth 100000 in
theorem c_X7_follow (l : Launch) (D : va_G) (cI cJ : ClassId) (zt : Nat) (hX7 : Nat) (aX7_above : Nat) (aX7_below : Nat) (hX3 : Nat) (hX2 : Nat) (hX1 : Nat) (hX6 : Nat) (hX0 : Nat) (hX5 : Nat) (aX3_shares : Nat) (r_size : Int) (r_shares : Int → Int) (l1 : Int) (l2 : Int) (l3 : Int) (Q : Int → (Int → Int) → Int → Prop) (r_r_shares : rr64 r_shares) (r_r_size : r32 r_size) (r_l1 : r32 l1) (r_l2 : r32 l2) (r_l3 : r32 l3) (h : wp_X7_follow Q r_shares r_size l1 l2 l3) : Ct l D cI cJ zt yX7_follow cX7_follow 4 (some .int) 6 0 0 [.ref hX7, .int (i32 l1), .int (i32 l2), .int (i32 l3)] [(hX7, .inr (6, [.ref aX7_above, .ref aX7_below, .ref hX3, .ref hX2, .ref hX1, .ref hX6, .ref hX0, .ref hX5])), (hX3, .inr (3, [.ref aX3_shares, .int (i32 r_size)])), (aX3_shares, aL cJ 16 r_shares)] (po_X7_follow cI cJ hX7 aX7_above aX7_below hX3 hX2 hX1 hX6 hX0 hX5 aX3_shares Q) := by
  refine ct_of (by decide +kernel) (Nat.le_of_ble_eq_true rfl) (fun X hl hDD hcI hcJ hzt hR hF hnm g => ?_)
  subst hl; subst hDD; subst hcI; subst hcJ; subst hzt
  show Wat X 0 0 0 [(0, .ref hX7), (1, .int (i32 l1)), (2, .int (i32 l2)), (3, .int (i32 l3))] [] [(hX7, .inr (6, [.ref aX7_above, .ref aX7_below, .ref hX3, .ref hX2, .ref hX1, .ref hX6, .ref hX0, .ref hX5])), (hX3, .inr (3, [.ref aX3_shares, .int (i32 r_size)])), (aX3_shares, aL X.cJ 16 r_shares)]
  replace g : Gd X cX7_follow RX7 (some .int) 4 := g
  rw [wp_X7_follow] at h
  refine q_iload_n g 2 2 rfl dX7_follow_0 ?_
  refine q_if_le g (19) 20 r_l2 (by decide) dX7_follow_1 (fun b1 => ?_) (fun b1 => ?_)
  · replace h := h.1 b1
    refine q_lv (lv' := []) [] rfl ?_
    exact s_X7_follow_20 g hR hX7 aX7_above aX7_below hX3 hX2 hX1 hX6 hX0 hX5 aX3_shares Q hF r_shares r_size r_r_shares r_r_size h
  replace h := h.2 b1
  refine q_iload_n g 2 2 rfl dX7_follow_4 ?_
  refine q_iload_n g 3 3 rfl dX7_follow_5 ?_
  refine q_icmp_ge g (14) 20 r_l2 r_l3 (by decide) dX7_follow_6 (fun b6 => ?_) (fun b6 => ?_)
  · replace h := h.1 b6
    refine q_lv (lv' := []) [] rfl ?_
    exact s_X7_follow_20 g hR hX7 aX7_above aX7_below hX3 hX2 hX1 hX6 hX0 hX5 aX3_shares Q hF r_shares r_size r_r_shares r_r_size h
  replace h := h.2 b6
  refine q_iload_n g 1 1 rfl dX7_follow_9 ?_
  refine q_iconst g (1) dX7_follow_10 ?_
  refine q_icmp_ne g (12) 23 r_l1 (r32_lit _ (by decide)) (by decide) dX7_follow_11 (fun b11 => ?_) (fun b11 => ?_)
  · replace h := h.1 b11
    exact s_X7_follow_23 g hR hX7 aX7_above aX7_below hX3 hX2 hX1 hX6 hX0 hX5 aX3_shares Q hF r_shares r_size l1 l2 l3 r_r_shares r_r_size r_l1 r_l2 r_l3 h
  replace h := h.2 b11
  refine q_iload_n g 3 3 rfl dX7_follow_14 ?_
  refine q_iconst g (2) dX7_follow_15 ?_
  refine q_irem g r_l3 (r32_lit _ (by decide)) (ne_of_pos (by decide)) dX7_follow_16 ?_
  refine q_if_ne g (6) 23 (r32_tmod r_l3 (r32_lit _ (by decide)) (ne_of_pos (by decide))) (by decide) dX7_follow_17 (fun b17 => ?_) (fun b17 => ?_)
  · replace h := h.1 b17
    exact s_X7_follow_23 g hR hX7 aX7_above aX7_below hX3 hX2 hX1 hX6 hX0 hX5 aX3_shares Q hF r_shares r_size l1 l2 l3 r_r_shares r_r_size r_l1 r_l2 r_l3 h
  replace h := h.2 b17
  refine q_lv (lv' := []) [] rfl ?_
  exact s_X7_follow_20 g hR hX7 aX7_above aX7_below hX3 hX2 hX1 hX6 hX0 hX5 aX3_shares Q hF r_shares r_size r_r_shares r_r_size h
theorem dX7_handy_0 : decode cX7_handy 0 = .ok (.iload_n 1, 1) := by decide +kernel
theorem dX7_handy_1 : decode cX7_handy 1 = .ok (.iconst 1, 1) := by decide +kernel
theorem dX7_handy_2 : decode cX7_handy 2 = .ok (.if_icmp .lt 10, 3) := by decide +kernel
theorem dX7_handy_5 : decode cX7_handy 5 = .ok (.iload_n 1, 1) := by decide +kernel
theorem dX7_handy_6 : decode cX7_handy 6 = .ok (.sipush 20000, 3) := by decide +kernel
theorem dX7_handy_9 : decode cX7_handy 9 = .ok (.if_icmp .le 5, 3) := by decide +kernel
theorem dX7_handy_12 : decode cX7_handy 12 = .ok (.iconst (-1), 1) := by decide +kernel
theorem dX7_handy_13 : decode cX7_handy 13 = .ok (.ireturn, 1) := by decide +kernel
theorem dX7_handy_14 : decode cX7_handy 14 = .ok (.iload_n 1, 1) := by decide +kernel
theorem dX7_handy_15 : decode cX7_handy 15 = .ok (.invokestatic 155, 3) := by decide +kernel
theorem dX7_handy_18 : decode cX7_handy 18 = .ok (.ifCond .eq 7, 3) := by decide +kernel
theorem dX7_handy_21 : decode cX7_handy 21 = .ok (.iconst 1, 1) := by decide +kernel
theorem dX7_handy_22 : decode cX7_handy 22 = .ok (.goto 4, 3) := by decide +kernel
theorem dX7_handy_25 : decode cX7_handy 25 = .ok (.iconst 0, 1) := by decide +kernel
theorem dX7_handy_26 : decode cX7_handy 26 = .ok (.ireturn, 1) := by decide +kernel
abbrev po_X7_handy (cI cJ : ClassId) (hX7 : Nat) (aX7_above : Nat) (aX7_below : Nat) (hX3 : Nat) (hX2 : Nat) (hX1 : Nat) (hX6 : Nat) (hX0 : Nat) (hX5 : Nat) (Q : Int → Prop) : Option Value → va_W → Prop := fun rv w1 => ∃ (r0 : Int), rv = some (.int (i32 r0)) ∧ w1 = [(hX7, .inr (6, [.ref aX7_above, .ref aX7_below, .ref hX3, .ref hX2, .ref hX1, .ref hX6, .ref hX0, .ref hX5]))] ∧ r32 r0 ∧ Q r0
def wp_X7_handy_12 (Q : Int → Prop) : Prop := Q (-1)
set_option maxHeartbeats 4000000 in
set_option maxRecDepth 100000 in
theorem s_X7_handy_12 {X : Cx} (g : Gd X cX7_handy RX7 (some .int) 2) (hR : X.R = rmL 2 0 0) (hX7 : Nat) (aX7_above : Nat) (aX7_below : Nat) (hX3 : Nat) (hX2 : Nat) (hX1 : Nat) (hX6 : Nat) (hX0 : Nat) (hX5 : Nat) (Q : Int → Prop) (hF : FQ X 0 0 (po_X7_handy X.cI X.cJ hX7 aX7_above aX7_below hX3 hX2 hX1 hX6 hX0 hX5 Q)) : wp_X7_handy_12 Q → Wat X 0 0 12 [] [] [(hX7, .inr (6, [.ref aX7_above, .ref aX7_below, .ref hX3, .ref hX2, .ref hX1, .ref hX6, .ref hX0, .ref hX5]))] := by
  intro h
  rw [wp_X7_handy_12] at h
  refine q_iconst g (-1) dX7_handy_12 ?_
  exact q_iret g hF ⟨(-1), rfl, rfl, (r32_lit _ (by decide)), h⟩ dX7_handy_13
def wp_X7_handy_26 (Q : Int → Prop) (k0 : Int) : Prop := Q k0
set_option maxHeartbeats 4000000 in
set_option maxRecDepth 100000 in
theorem s_X7_handy_26 {X : Cx} (g : Gd X cX7_handy RX7 (some .int) 2) (hR : X.R = rmL 2 0 0) (hX7 : Nat) (aX7_above : Nat) (aX7_below : Nat) (hX3 : Nat) (hX2 : Nat) (hX1 : Nat) (hX6 : Nat) (hX0 : Nat) (hX5 : Nat) (Q : Int → Prop) (hF : FQ X 0 0 (po_X7_handy X.cI X.cJ hX7 aX7_above aX7_below hX3 hX2 hX1 hX6 hX0 hX5 Q)) : ∀ (k0 : Int), r32 k0 → wp_X7_handy_26 Q k0 → Wat X 0 0 26 [] [.int (i32 k0)] [(hX7, .inr (6, [.ref aX7_above, .ref aX7_below, .ref hX3, .ref hX2, .ref hX1, .ref hX6, .ref hX0, .ref hX5]))] := by
  intro k0 r_k0 h
  rw [wp_X7_handy_26] at h
  exact q_iret g hF ⟨k0, rfl, rfl, r_k0, h⟩ dX7_handy_26
def wp_X7_handy (Q : Int → Prop) (l1 : Int) : Prop := ((l1 < 1 → wp_X7_handy_12 Q) ∧
  (¬ (l1 < 1) → ((l1 ≤ 20000 → wp_X7_isHandy (fun (x15 : Int) => ((x15 = 0 → wp_X7_handy_26 Q 0) ∧
  (¬ (x15 = 0) → wp_X7_handy_26 Q 1))) l1) ∧
  (¬ (l1 ≤ 20000) → wp_X7_handy_12 Q))))
set_option maxHeartbeats 4000000 in
set_option maxRecDepth 100000 in
theorem c_X7_handy (l : Launch) (D : va_G) (cI cJ : ClassId) (zt : Nat) (hX7 : Nat) (aX7_above : Nat) (aX7_below : Nat) (hX3 : Nat) (hX2 : Nat) (hX1 : Nat) (hX6 : Nat) (hX0 : Nat) (hX5 : Nat) (l1 : Int) (Q : Int → Prop) (r_l1 : r32 l1) (h : wp_X7_handy Q l1) : Ct l D cI cJ zt yX7_handy cX7_handy 2 (some .int) 2 0 0 [.ref hX7, .int (i32 l1)] [(hX7, .inr (6, [.ref aX7_above, .ref aX7_below, .ref hX3, .ref hX2, .ref hX1, .ref hX6, .ref hX0, .ref hX5]))] (po_X7_handy cI cJ hX7 aX7_above aX7_below hX3 hX2 hX1 hX6 hX0 hX5 Q) := by
  refine ct_of (by decide +kernel) (Nat.le_of_ble_eq_true rfl) (fun X hl hDD hcI hcJ hzt hR hF hnm g => ?_)
  subst hl; subst hDD; subst hcI; subst hcJ; subst hzt
  show Wat X 0 0 0 [(0, .ref hX7), (1, .int (i32 l1))] [] [(hX7, .inr (6, [.ref aX7_above, .ref aX7_below, .ref hX3, .ref hX2, .ref hX1, .ref hX6, .ref hX0, .ref hX5]))]
  replace g : Gd X cX7_handy RX7 (some .int) 2 := g
  rw [wp_X7_handy] at h
  refine q_iload_n g 1 1 rfl dX7_handy_0 ?_
  refine q_iconst g (1) dX7_handy_1 ?_
  refine q_icmp_lt g (10) 12 r_l1 (r32_lit _ (by decide)) (by decide) dX7_handy_2 (fun b2 => ?_) (fun b2 => ?_)
  · replace h := h.1 b2
    refine q_lv (lv' := []) [] rfl ?_
    exact s_X7_handy_12 g hR hX7 aX7_above aX7_below hX3 hX2 hX1 hX6 hX0 hX5 Q hF h
  replace h := h.2 b2
  refine q_iload_n g 1 1 rfl dX7_handy_5 ?_
  refine q_sipush g (20000) (by decide) (by decide) dX7_handy_6 ?_
  refine q_icmp_le g (5) 14 r_l1 (r32_lit _ (by decide)) (by decide) dX7_handy_9 (fun b9 => ?_) (fun b9 => ?_)
  · replace h := h.1 b9
    refine q_iload_n g 1 1 rfl dX7_handy_14 ?_
    refine q_callS (lev := 1) (mc := 0) (ms := 0) (As := [.int (i32 l1)]) g 155 (c_X7_isHandy X.l X.D X.cI X.cJ X.zt l1 _ r_l1 h) (wr := [(hX7, .inr (6, [.ref aX7_above, .ref aX7_below, .ref hX3, .ref hX2, .ref hX1, .ref hX6, .ref hX0, .ref hX5]))]) [] [0] rfl rfl rfl (by decide) (by decide) (by decide) wM_X7_155 wT_X7_isHandy wZ_X7 wC_X7_isHandy 1 rfl (by decide +kernel) (by rw [hR]; exact ⟨by show 1 + 1 ≤ 2; omega, by show 8 + (6 + 11) + 100 * 1 ≤ 100 * 2; omega⟩) (by rw [hR]; exact ⟨Nat.le_refl _, Nat.le_refl _⟩) (Nat.le_of_ble_eq_true rfl) rfl dX7_handy_15 (fun rv w1 hq => ?_)
    obtain ⟨x15, rfl, rfl, rx15, h⟩ := hq
    show Wat X 0 0 18 [(0, .ref hX7), (1, .int (i32 l1))] [.int (i32 x15)] [(hX7, .inr (6, [.ref aX7_above, .ref aX7_below, .ref hX3, .ref hX2, .ref hX1, .ref hX6, .ref hX0, .ref hX5]))]
    refine q_if_eq g (7) 25 rx15 (by decide) dX7_handy_18 (fun b18 => ?_) (fun b18 => ?_)
    · replace h := h.1 b18
      refine q_iconst g (0) dX7_handy_25 ?_
      refine q_lv (lv' := []) [] rfl ?_
      exact s_X7_handy_26 g hR hX7 aX7_above aX7_below hX3 hX2 hX1 hX6 hX0 hX5 Q hF 0 (r32_lit _ (by decide)) h
    replace h := h.2 b18
    refine q_iconst g (1) dX7_handy_21 ?_
    refine q_goto g (4) 26 (by decide) dX7_handy_22 ?_
    refine q_lv (lv' := []) [] rfl ?_
    exact s_X7_handy_26 g hR hX7 aX7_above aX7_below hX3 hX2 hX1 hX6 hX0 hX5 Q hF 1 (r32_lit _ (by decide)) h
  replace h := h.2 b9
  refine q_lv (lv' := []) [] rfl ?_
  exact s_X7_handy_12 g hR hX7 aX7_above aX7_below hX3 hX2 hX1 hX6 hX0 hX5 Q hF h
theorem dX7_put_0 : decode cX7_put 0 = .ok (.lload_n 2, 1) := by decide +kernel
theorem dX7_put_1 : decode cX7_put 1 = .ok (.lconst 0, 1) := by decide +kernel
theorem dX7_put_2 : decode cX7_put 2 = .ok (.lcmp, 1) := by decide +kernel
theorem dX7_put_3 : decode cX7_put 3 = .ok (.ifCond .lt 10, 3) := by decide +kernel
theorem dX7_put_6 : decode cX7_put 6 = .ok (.lload 4, 2) := by decide +kernel
theorem dX7_put_8 : decode cX7_put 8 = .ok (.lconst 0, 1) := by decide +kernel
theorem dX7_put_9 : decode cX7_put 9 = .ok (.lcmp, 1) := by decide +kernel
theorem dX7_put_10 : decode cX7_put 10 = .ok (.ifCond .gt 6, 3) := by decide +kernel
theorem dX7_put_13 : decode cX7_put 13 = .ok (.bipush (-2), 2) := by decide +kernel
theorem dX7_put_15 : decode cX7_put 15 = .ok (.ireturn, 1) := by decide +kernel
theorem dX7_put_16 : decode cX7_put 16 = .ok (.lload_n 2, 1) := by decide +kernel
theorem dX7_put_17 : decode cX7_put 17 = .ok (.lload 4, 2) := by decide +kernel
theorem dX7_put_19 : decode cX7_put 19 = .ok (.invokestatic 176, 3) := by decide +kernel
theorem dX7_put_22 : decode cX7_put 22 = .ok (.lstore 6, 2) := by decide +kernel
theorem dX7_put_24 : decode cX7_put 24 = .ok (.lload_n 2, 1) := by decide +kernel
theorem dX7_put_25 : decode cX7_put 25 = .ok (.lload 6, 2) := by decide +kernel
theorem dX7_put_27 : decode cX7_put 27 = .ok (.ldiv, 1) := by decide +kernel
theorem dX7_put_28 : decode cX7_put 28 = .ok (.ldc2_w 197, 3) := by decide +kernel
theorem dX7_put_31 : decode cX7_put 31 = .ok (.lcmp, 1) := by decide +kernel
theorem dX7_put_32 : decode cX7_put 32 = .ok (.ifCond .gt 15, 3) := by decide +kernel
theorem dX7_put_35 : decode cX7_put 35 = .ok (.lload 4, 2) := by decide +kernel
theorem dX7_put_37 : decode cX7_put 37 = .ok (.lload 6, 2) := by decide +kernel
theorem dX7_put_39 : decode cX7_put 39 = .ok (.ldiv, 1) := by decide +kernel
theorem dX7_put_40 : decode cX7_put 40 = .ok (.ldc2_w 197, 3) := by decide +kernel
theorem dX7_put_43 : decode cX7_put 43 = .ok (.lcmp, 1) := by decide +kernel
theorem dX7_put_44 : decode cX7_put 44 = .ok (.ifCond .le 6, 3) := by decide +kernel
theorem dX7_put_47 : decode cX7_put 47 = .ok (.bipush (-5), 2) := by decide +kernel
theorem dX7_put_49 : decode cX7_put 49 = .ok (.ireturn, 1) := by decide +kernel
theorem dX7_put_50 : decode cX7_put 50 = .ok (.iload_n 1, 1) := by decide +kernel
theorem dX7_put_51 : decode cX7_put 51 = .ok (.invokestatic 64, 3) := by decide +kernel
theorem dX7_put_54 : decode cX7_put 54 = .ok (.ifCond .eq 26, 3) := by decide +kernel
theorem dX7_put_57 : decode cX7_put 57 = .ok (.aload_n 0, 1) := by decide +kernel
theorem dX7_put_58 : decode cX7_put 58 = .ok (.getfield 9, 3) := by decide +kernel
theorem dX7_put_61 : decode cX7_put 61 = .ok (.iload_n 1, 1) := by decide +kernel
theorem dX7_put_62 : decode cX7_put 62 = .ok (.lload_n 2, 1) := by decide +kernel
theorem dX7_put_63 : decode cX7_put 63 = .ok (.lload 6, 2) := by decide +kernel
theorem dX7_put_65 : decode cX7_put 65 = .ok (.ldiv, 1) := by decide +kernel
theorem dX7_put_66 : decode cX7_put 66 = .ok (.l2i, 1) := by decide +kernel
theorem dX7_put_67 : decode cX7_put 67 = .ok (.iastore, 1) := by decide +kernel
theorem dX7_put_68 : decode cX7_put 68 = .ok (.aload_n 0, 1) := by decide +kernel
theorem dX7_put_69 : decode cX7_put 69 = .ok (.getfield 13, 3) := by decide +kernel
theorem dX7_put_72 : decode cX7_put 72 = .ok (.iload_n 1, 1) := by decide +kernel
theorem dX7_put_73 : decode cX7_put 73 = .ok (.lload 4, 2) := by decide +kernel
theorem dX7_put_75 : decode cX7_put 75 = .ok (.lload 6, 2) := by decide +kernel
theorem dX7_put_77 : decode cX7_put 77 = .ok (.ldiv, 1) := by decide +kernel
theorem dX7_put_78 : decode cX7_put 78 = .ok (.l2i, 1) := by decide +kernel
theorem dX7_put_79 : decode cX7_put 79 = .ok (.iastore, 1) := by decide +kernel
theorem dX7_put_80 : decode cX7_put 80 = .ok (.iconst 0, 1) := by decide +kernel
theorem dX7_put_81 : decode cX7_put 81 = .ok (.ireturn, 1) := by decide +kernel
abbrev po_X7_put (cI cJ : ClassId) (hX7 : Nat) (aX7_above : Nat) (aX7_below : Nat) (hX3 : Nat) (hX2 : Nat) (hX1 : Nat) (hX6 : Nat) (hX0 : Nat) (hX5 : Nat) (Q : Int → (Int → Int) → (Int → Int) → Prop) : Option Value → va_W → Prop := fun rv w1 => ∃ (r0 : Int) (s_above : Int → Int) (s_below : Int → Int), rv = some (.int (i32 r0)) ∧ w1 = [(hX7, .inr (6, [.ref aX7_above, .ref aX7_below, .ref hX3, .ref hX2, .ref hX1, .ref hX6, .ref hX0, .ref hX5])), (aX7_above, aI cI 8 s_above), (aX7_below, aI cI 8 s_below)] ∧ r32 r0 ∧ rr32 s_above ∧ rr32 s_below ∧ Q r0 s_above s_below
def wp_X7_put_13 (Q : Int → (Int → Int) → (Int → Int) → Prop) (s_above : Int → Int) (s_below : Int → Int) : Prop := Q (-2) s_above s_below
set_option maxHeartbeats 4000000 in
set_option maxRecDepth 100000 in
theorem s_X7_put_13 {X : Cx} (g : Gd X cX7_put RX7 (some .int) 8) (hR : X.R = rmL 3 0 0) (hX7 : Nat) (aX7_above : Nat) (aX7_below : Nat) (hX3 : Nat) (hX2 : Nat) (hX1 : Nat) (hX6 : Nat) (hX0 : Nat) (hX5 : Nat) (Q : Int → (Int → Int) → (Int → Int) → Prop) (hF : FQ X 0 0 (po_X7_put X.cI X.cJ hX7 aX7_above aX7_below hX3 hX2 hX1 hX6 hX0 hX5 Q)) : ∀ (s_above : Int → Int) (s_below : Int → Int), rr32 s_above → rr32 s_below → wp_X7_put_13 Q s_above s_below → Wat X 0 0 13 [] [] [(hX7, .inr (6, [.ref aX7_above, .ref aX7_below, .ref hX3, .ref hX2, .ref hX1, .ref hX6, .ref hX0, .ref hX5])), (aX7_above, aI X.cI 8 s_above), (aX7_below, aI X.cI 8 s_below)] := by
  intro s_above s_below r_s_above r_s_below h
  rw [wp_X7_put_13] at h
  refine q_bipush g (-2) (by decide) (by decide) dX7_put_13 ?_
  exact q_iret g hF ⟨(-2), s_above, s_below, rfl, rfl, (r32_lit _ (by decide)), r_s_above, r_s_below, h⟩ dX7_put_15
def wp_X7_put_47 (Q : Int → (Int → Int) → (Int → Int) → Prop) (s_above : Int → Int) (s_below : Int → Int) : Prop := Q (-5) s_above s_below
set_option maxHeartbeats 4000000 in
set_option maxRecDepth 100000 in
theorem s_X7_put_47 {X : Cx} (g : Gd X cX7_put RX7 (some .int) 8) (hR : X.R = rmL 3 0 0) (hX7 : Nat) (aX7_above : Nat) (aX7_below : Nat) (hX3 : Nat) (hX2 : Nat) (hX1 : Nat) (hX6 : Nat) (hX0 : Nat) (hX5 : Nat) (Q : Int → (Int → Int) → (Int → Int) → Prop) (hF : FQ X 0 0 (po_X7_put X.cI X.cJ hX7 aX7_above aX7_below hX3 hX2 hX1 hX6 hX0 hX5 Q)) : ∀ (s_above : Int → Int) (s_below : Int → Int), rr32 s_above → rr32 s_below → wp_X7_put_47 Q s_above s_below → Wat X 0 0 47 [] [] [(hX7, .inr (6, [.ref aX7_above, .ref aX7_below, .ref hX3, .ref hX2, .ref hX1, .ref hX6, .ref hX0, .ref hX5])), (aX7_above, aI X.cI 8 s_above), (aX7_below, aI X.cI 8 s_below)] := by
  intro s_above s_below r_s_above r_s_below h
  rw [wp_X7_put_47] at h
  refine q_bipush g (-5) (by decide) (by decide) dX7_put_47 ?_
  exact q_iret g hF ⟨(-5), s_above, s_below, rfl, rfl, (r32_lit _ (by decide)), r_s_above, r_s_below, h⟩ dX7_put_49
def wp_X7_put_80 (Q : Int → (Int → Int) → (Int → Int) → Prop) (s_above : Int → Int) (s_below : Int → Int) : Prop := Q 0 s_above s_below
set_option maxHeartbeats 4000000 in
set_option maxRecDepth 100000 in
theorem s_X7_put_80 {X : Cx} (g : Gd X cX7_put RX7 (some .int) 8) (hR : X.R = rmL 3 0 0) (hX7 : Nat) (aX7_above : Nat) (aX7_below : Nat) (hX3 : Nat) (hX2 : Nat) (hX1 : Nat) (hX6 : Nat) (hX0 : Nat) (hX5 : Nat) (Q : Int → (Int → Int) → (Int → Int) → Prop) (hF : FQ X 0 0 (po_X7_put X.cI X.cJ hX7 aX7_above aX7_below hX3 hX2 hX1 hX6 hX0 hX5 Q)) : ∀ (s_above : Int → Int) (s_below : Int → Int), rr32 s_above → rr32 s_below → wp_X7_put_80 Q s_above s_below → Wat X 0 0 80 [] [] [(hX7, .inr (6, [.ref aX7_above, .ref aX7_below, .ref hX3, .ref hX2, .ref hX1, .ref hX6, .ref hX0, .ref hX5])), (aX7_above, aI X.cI 8 s_above), (aX7_below, aI X.cI 8 s_below)] := by
  intro s_above s_below r_s_above r_s_below h
  rw [wp_X7_put_80] at h
  refine q_iconst g (0) dX7_put_80 ?_
  exact q_iret g hF ⟨0, s_above, s_below, rfl, rfl, (r32_lit _ (by decide)), r_s_above, r_s_below, h⟩ dX7_put_81
def wp_X7_put (Q : Int → (Int → Int) → (Int → Int) → Prop) (s_above : Int → Int) (s_below : Int → Int) (l1 : Int) (l2 : Int) (l4 : Int) : Prop := ((l2 < 0 → wp_X7_put_13 Q s_above s_below) ∧
  (¬ (l2 < 0) → ((0 < l4 → wp_X7_commonDivisor (fun (x19 : Int) => (0 < x19 ∧ ((1000000 < (l2.tdiv x19) → wp_X7_put_47 Q s_above s_below) ∧
  (¬ (1000000 < (l2.tdiv x19)) → (0 < x19 ∧ (((l4.tdiv x19) ≤ 1000000 → wp_X7_isRegister (fun (x51 : Int) => ((x51 = 0 → wp_X7_put_80 Q s_above s_below) ∧
  (¬ (x51 = 0) → (0 < x19 ∧ r32 (l2.tdiv x19) ∧ ∀ x67 : Int, x67 = (l2.tdiv x19) → 0 ≤ l1 ∧ l1 < 8 ∧ 0 < x19 ∧ r32 (l4.tdiv x19) ∧ ∀ x79 : Int, x79 = (l4.tdiv x19) → 0 ≤ l1 ∧ l1 < 8 ∧ wp_X7_put_80 Q (ups s_above l1 x67) (ups s_below l1 x79))))) l1) ∧
  (¬ ((l4.tdiv x19) ≤ 1000000) → wp_X7_put_47 Q s_above s_below))))))) l2 l4) ∧
  (¬ (0 < l4) → wp_X7_put_13 Q s_above s_below))))
set_option maxHeartbeats 4000000 in
set_option maxRecDepth 100000 in
theorem c_X7_put (l : Launch) (D : va_G) (cI cJ : ClassId) (zt : Nat) (hX7 : Nat) (aX7_above : Nat) (aX7_below : Nat) (hX3 : Nat) (hX2 : Nat) (hX1 : Nat) (hX6 : Nat) (hX0 : Nat) (hX5 : Nat) (s_above : Int → Int) (s_below : Int → Int) (l1 : Int) (l2 : Int) (l4 : Int) (Q : Int → (Int → Int) → (Int → Int) → Prop) (r_s_above : rr32 s_above) (r_s_below : rr32 s_below) (r_l1 : r32 l1) (r_l2 : r64 l2) (r_l4 : r64 l4) (h : wp_X7_put Q s_above s_below l1 l2 l4) : Ct l D cI cJ zt yX7_put cX7_put 8 (some .int) 3 0 0 [.ref hX7, .int (i32 l1), .long (i64 l2), .long (i64 l4)] [(hX7, .inr (6, [.ref aX7_above, .ref aX7_below, .ref hX3, .ref hX2, .ref hX1, .ref hX6, .ref hX0, .ref hX5])), (aX7_above, aI cI 8 s_above), (aX7_below, aI cI 8 s_below)] (po_X7_put cI cJ hX7 aX7_above aX7_below hX3 hX2 hX1 hX6 hX0 hX5 Q) := by
  refine ct_of (by decide +kernel) (Nat.le_of_ble_eq_true rfl) (fun X hl hDD hcI hcJ hzt hR hF hnm g => ?_)
  subst hl; subst hDD; subst hcI; subst hcJ; subst hzt
  show Wat X 0 0 0 [(0, .ref hX7), (1, .int (i32 l1)), (2, .long (i64 l2)), (4, .long (i64 l4))] [] [(hX7, .inr (6, [.ref aX7_above, .ref aX7_below, .ref hX3, .ref hX2, .ref hX1, .ref hX6, .ref hX0, .ref hX5])), (aX7_above, aI X.cI 8 s_above), (aX7_below, aI X.cI 8 s_below)]
  replace g : Gd X cX7_put RX7 (some .int) 8 := g
  rw [wp_X7_put] at h
  refine q_lload_n g 2 2 rfl dX7_put_0 ?_
  refine q_lconst g 0 0 rfl dX7_put_1 ?_
  refine q_lcmp_lt g (10) 13 r_l2 (r64_lit _ (by decide)) (by decide) dX7_put_2 dX7_put_3 (fun b2 => ?_) (fun b2 => ?_)
  · replace h := h.1 b2
    refine q_lv (lv' := []) [] rfl ?_
    exact s_X7_put_13 g hR hX7 aX7_above aX7_below hX3 hX2 hX1 hX6 hX0 hX5 Q hF s_above s_below r_s_above r_s_below h
  replace h := h.2 b2
  refine q_lload g 4 3 rfl dX7_put_6 ?_
  refine q_lconst g 0 0 rfl dX7_put_8 ?_
  refine q_lcmp_gt g (6) 16 r_l4 (r64_lit _ (by decide)) (by decide) dX7_put_9 dX7_put_10 (fun b9 => ?_) (fun b9 => ?_)
  · replace h := h.1 b9
    refine q_lload_n g 2 2 rfl dX7_put_16 ?_
    refine q_lload g 4 3 rfl dX7_put_17 ?_
    refine q_callS (lev := 2) (mc := 0) (ms := 0) (As := [.long (i64 l2), .long (i64 l4)]) g 176 (c_X7_commonDivisor X.l X.D X.cI X.cJ X.zt l2 l4 _ r_l2 r_l4 h) (wr := [(hX7, .inr (6, [.ref aX7_above, .ref aX7_below, .ref hX3, .ref hX2, .ref hX1, .ref hX6, .ref hX0, .ref hX5])), (aX7_above, aI X.cI 8 s_above), (aX7_below, aI X.cI 8 s_below)]) [] [0, 1, 2] rfl rfl rfl (by decide) (by decide) (by decide) wM_X7_176 wT_X7_commonDivisor wZ_X7 wC_X7_commonDivisor 2 rfl (by decide +kernel) (by rw [hR]; exact ⟨by show 2 + 1 ≤ 3; omega, by show 8 + (11 + 11) + 100 * 2 ≤ 100 * 3; omega⟩) (by rw [hR]; exact ⟨Nat.le_refl _, Nat.le_refl _⟩) (Nat.le_of_ble_eq_true rfl) rfl dX7_put_19 (fun rv w1 hq => ?_)
    obtain ⟨x19, rfl, rfl, rx19, h⟩ := hq
    show Wat X 0 0 22 [(0, .ref hX7), (1, .int (i32 l1)), (2, .long (i64 l2)), (4, .long (i64 l4))] [.long (i64 x19)] [(hX7, .inr (6, [.ref aX7_above, .ref aX7_below, .ref hX3, .ref hX2, .ref hX1, .ref hX6, .ref hX0, .ref hX5])), (aX7_above, aI X.cI 8 s_above), (aX7_below, aI X.cI 8 s_below)]
    refine q_lstore (lv' := [(6, .long (i64 x19)), (0, .ref hX7), (1, .int (i32 l1)), (2, .long (i64 l2)), (4, .long (i64 l4))]) g 6   (by decide) rfl dX7_put_22 ?_
    refine q_lload_n g 2 3 rfl dX7_put_24 ?_
    refine q_lload g 6 0 rfl dX7_put_25 ?_
    obtain ⟨c27, h⟩ := h
    refine q_ldiv g r_l2 rx19 (ne_of_pos c27) dX7_put_27 ?_
    refine q_ldc2 (w := 1000000) g 197 (1000000) (by decide +kernel) wL_X7_197 dX7_put_28 ?_
    refine q_lcmp_gt g (15) 47 (r64_tdiv r_l2 c27) (r64_lit _ (by decide)) (by decide) dX7_put_31 dX7_put_32 (fun b31 => ?_) (fun b31 => ?_)
    · replace h := h.1 b31
      refine q_lv (lv' := []) [] rfl ?_
      exact s_X7_put_47 g hR hX7 aX7_above aX7_below hX3 hX2 hX1 hX6 hX0 hX5 Q hF s_above s_below r_s_above r_s_below h
    replace h := h.2 b31
    refine q_lload g 4 4 rfl dX7_put_35 ?_
    refine q_lload g 6 0 rfl dX7_put_37 ?_
    obtain ⟨c39, h⟩ := h
    refine q_ldiv g r_l4 rx19 (ne_of_pos c39) dX7_put_39 ?_
    refine q_ldc2 (w := 1000000) g 197 (1000000) (by decide +kernel) wL_X7_197 dX7_put_40 ?_
    refine q_lcmp_le g (6) 50 (r64_tdiv r_l4 c39) (r64_lit _ (by decide)) (by decide) dX7_put_43 dX7_put_44 (fun b43 => ?_) (fun b43 => ?_)
    · replace h := h.1 b43
      refine q_iload_n g 1 2 rfl dX7_put_50 ?_
      refine q_callS (lev := 1) (mc := 0) (ms := 0) (As := [.int (i32 l1)]) g 64 (c_X7_isRegister X.l X.D X.cI X.cJ X.zt l1 _ r_l1 h) (wr := [(hX7, .inr (6, [.ref aX7_above, .ref aX7_below, .ref hX3, .ref hX2, .ref hX1, .ref hX6, .ref hX0, .ref hX5])), (aX7_above, aI X.cI 8 s_above), (aX7_below, aI X.cI 8 s_below)]) [] [0, 1, 2] rfl rfl rfl (by decide) (by decide) (by decide) wM_X7_64 wT_X7_isRegister wZ_X7 wC_X7_isRegister 1 rfl (by decide +kernel) (by rw [hR]; exact ⟨by show 1 + 1 ≤ 3; omega, by show 8 + (1 + 11) + 100 * 1 ≤ 100 * 3; omega⟩) (by rw [hR]; exact ⟨Nat.le_refl _, Nat.le_refl _⟩) (Nat.le_of_ble_eq_true rfl) rfl dX7_put_51 (fun rv w1 hq => ?_)
      obtain ⟨x51, rfl, rfl, rx51, h⟩ := hq
      show Wat X 0 0 54 [(6, .long (i64 x19)), (0, .ref hX7), (1, .int (i32 l1)), (2, .long (i64 l2)), (4, .long (i64 l4))] [.int (i32 x51)] [(hX7, .inr (6, [.ref aX7_above, .ref aX7_below, .ref hX3, .ref hX2, .ref hX1, .ref hX6, .ref hX0, .ref hX5])), (aX7_above, aI X.cI 8 s_above), (aX7_below, aI X.cI 8 s_below)]
      refine q_if_eq g (26) 80 rx51 (by decide) dX7_put_54 (fun b54 => ?_) (fun b54 => ?_)
      · replace h := h.1 b54
        refine q_lv (lv' := []) [] rfl ?_
        exact s_X7_put_80 g hR hX7 aX7_above aX7_below hX3 hX2 hX1 hX6 hX0 hX5 Q hF s_above s_below r_s_above r_s_below h
      replace h := h.2 b54
      refine q_aload_n g 0 1 rfl dX7_put_57 ?_
      refine q_get (C := RX7) (T := TX7) (N := 8) g 9 inX7 0 0 rfl rfl (by decide) wF_X7_9 rfl dX7_put_58 ?_
      refine q_iload_n g 1 2 rfl dX7_put_61 ?_
      refine q_lload_n g 2 3 rfl dX7_put_62 ?_
      refine q_lload g 6 0 rfl dX7_put_63 ?_
      obtain ⟨c65, h⟩ := h
      refine q_ldiv g r_l2 rx19 (ne_of_pos c65) dX7_put_65 ?_
      obtain ⟨c66, h⟩ := h
      refine q_l2i g dX7_put_66 ?_
      refine q_topi c66 (fun x67 ex67 rx67 => ?_)
      replace h := h x67 ex67
      obtain ⟨c67, h⟩ := h
      obtain ⟨e67, h⟩ := h
      refine q_iast (ws' := [(hX7, .inr (6, [.ref aX7_above, .ref aX7_below, .ref hX3, .ref hX2, .ref hX1, .ref hX6, .ref hX0, .ref hX5])), (aX7_above, aI X.cI 8 (ups s_above l1 x67)), (aX7_below, aI X.cI 8 s_below)]) g 1 rfl c67 e67 (by decide) rfl dX7_put_67 ?_
      refine q_aload_n g 0 1 rfl dX7_put_68 ?_
      refine q_get (C := RX7) (T := TX7) (N := 8) g 13 inX7 0 1 rfl rfl (by decide) wF_X7_13 rfl dX7_put_69 ?_
      refine q_iload_n g 1 2 rfl dX7_put_72 ?_
      refine q_lload g 4 4 rfl dX7_put_73 ?_
      refine q_lload g 6 0 rfl dX7_put_75 ?_
      obtain ⟨c77, h⟩ := h
      refine q_ldiv g r_l4 rx19 (ne_of_pos c77) dX7_put_77 ?_
      obtain ⟨c78, h⟩ := h
      refine q_l2i g dX7_put_78 ?_
      refine q_topi c78 (fun x79 ex79 rx79 => ?_)
      replace h := h x79 ex79
      obtain ⟨c79, h⟩ := h
      obtain ⟨e79, h⟩ := h
      refine q_iast (ws' := [(hX7, .inr (6, [.ref aX7_above, .ref aX7_below, .ref hX3, .ref hX2, .ref hX1, .ref hX6, .ref hX0, .ref hX5])), (aX7_above, aI X.cI 8 (ups s_above l1 x67)), (aX7_below, aI X.cI 8 (ups s_below l1 x79))]) g 2 rfl c79 e79 (by decide) rfl dX7_put_79 ?_
      refine q_lv (lv' := []) [] rfl ?_
      exact s_X7_put_80 g hR hX7 aX7_above aX7_below hX3 hX2 hX1 hX6 hX0 hX5 Q hF (ups s_above l1 x67) (ups s_below l1 x79) (rr32_u r_s_above rx67) (rr32_u r_s_below rx79) h
    replace h := h.2 b43
    refine q_lv (lv' := []) [] rfl ?_
    exact s_X7_put_47 g hR hX7 aX7_above aX7_below hX3 hX2 hX1 hX6 hX0 hX5 Q hF s_above s_below r_s_above r_s_below h
  replace h := h.2 b9
  refine q_lv (lv' := []) [] rfl ?_
  exact s_X7_put_13 g hR hX7 aX7_above aX7_below hX3 hX2 hX1 hX6 hX0 hX5 Q hF s_above s_below r_s_above r_s_below h
theorem dX7_hold_0 : decode cX7_hold 0 = .ok (.iload_n 1, 1) := by decide +kernel
theorem dX7_hold_1 : decode cX7_hold 1 = .ok (.invokestatic 64, 3) := by decide +kernel
theorem dX7_hold_4 : decode cX7_hold 4 = .ok (.ifCond .eq 24, 3) := by decide +kernel
theorem dX7_hold_7 : decode cX7_hold 7 = .ok (.iload_n 2, 1) := by decide +kernel
theorem dX7_hold_8 : decode cX7_hold 8 = .ok (.ifCond .lt 20, 3) := by decide +kernel
theorem dX7_hold_11 : decode cX7_hold 11 = .ok (.iload_n 2, 1) := by decide +kernel
theorem dX7_hold_12 : decode cX7_hold 12 = .ok (.ldc 68, 2) := by decide +kernel
theorem dX7_hold_14 : decode cX7_hold 14 = .ok (.if_icmp .gt 14, 3) := by decide +kernel
theorem dX7_hold_17 : decode cX7_hold 17 = .ok (.iload_n 3, 1) := by decide +kernel
theorem dX7_hold_18 : decode cX7_hold 18 = .ok (.iconst 1, 1) := by decide +kernel
theorem dX7_hold_19 : decode cX7_hold 19 = .ok (.if_icmp .lt 9, 3) := by decide +kernel
theorem dX7_hold_22 : decode cX7_hold 22 = .ok (.iload_n 3, 1) := by decide +kernel
theorem dX7_hold_23 : decode cX7_hold 23 = .ok (.ldc 68, 2) := by decide +kernel
theorem dX7_hold_25 : decode cX7_hold 25 = .ok (.if_icmp .le 5, 3) := by decide +kernel
theorem dX7_hold_28 : decode cX7_hold 28 = .ok (.iconst (-1), 1) := by decide +kernel
theorem dX7_hold_29 : decode cX7_hold 29 = .ok (.ireturn, 1) := by decide +kernel
theorem dX7_hold_30 : decode cX7_hold 30 = .ok (.aload_n 0, 1) := by decide +kernel
theorem dX7_hold_31 : decode cX7_hold 31 = .ok (.iload_n 1, 1) := by decide +kernel
theorem dX7_hold_32 : decode cX7_hold 32 = .ok (.iload_n 2, 1) := by decide +kernel
theorem dX7_hold_33 : decode cX7_hold 33 = .ok (.i2l, 1) := by decide +kernel
theorem dX7_hold_34 : decode cX7_hold 34 = .ok (.iload_n 3, 1) := by decide +kernel
theorem dX7_hold_35 : decode cX7_hold 35 = .ok (.i2l, 1) := by decide +kernel
theorem dX7_hold_36 : decode cX7_hold 36 = .ok (.invokevirtual 69, 3) := by decide +kernel
theorem dX7_hold_39 : decode cX7_hold 39 = .ok (.ireturn, 1) := by decide +kernel
abbrev po_X7_hold (cI cJ : ClassId) (hX7 : Nat) (aX7_above : Nat) (aX7_below : Nat) (hX3 : Nat) (hX2 : Nat) (hX1 : Nat) (hX6 : Nat) (hX0 : Nat) (hX5 : Nat) (Q : Int → (Int → Int) → (Int → Int) → Prop) : Option Value → va_W → Prop := fun rv w1 => ∃ (r0 : Int) (s_above : Int → Int) (s_below : Int → Int), rv = some (.int (i32 r0)) ∧ w1 = [(hX7, .inr (6, [.ref aX7_above, .ref aX7_below, .ref hX3, .ref hX2, .ref hX1, .ref hX6, .ref hX0, .ref hX5])), (aX7_above, aI cI 8 s_above), (aX7_below, aI cI 8 s_below)] ∧ r32 r0 ∧ rr32 s_above ∧ rr32 s_below ∧ Q r0 s_above s_below
def wp_X7_hold_28 (Q : Int → (Int → Int) → (Int → Int) → Prop) (s_above : Int → Int) (s_below : Int → Int) : Prop := Q (-1) s_above s_below
set_option maxHeartbeats 4000000 in
set_option maxRecDepth 100000 in
theorem s_X7_hold_28 {X : Cx} (g : Gd X cX7_hold RX7 (some .int) 4) (hR : X.R = rmL 4 0 0) (hX7 : Nat) (aX7_above : Nat) (aX7_below : Nat) (hX3 : Nat) (hX2 : Nat) (hX1 : Nat) (hX6 : Nat) (hX0 : Nat) (hX5 : Nat) (Q : Int → (Int → Int) → (Int → Int) → Prop) (hF : FQ X 0 0 (po_X7_hold X.cI X.cJ hX7 aX7_above aX7_below hX3 hX2 hX1 hX6 hX0 hX5 Q)) : ∀ (s_above : Int → Int) (s_below : Int → Int), rr32 s_above → rr32 s_below → wp_X7_hold_28 Q s_above s_below → Wat X 0 0 28 [] [] [(hX7, .inr (6, [.ref aX7_above, .ref aX7_below, .ref hX3, .ref hX2, .ref hX1, .ref hX6, .ref hX0, .ref hX5])), (aX7_above, aI X.cI 8 s_above), (aX7_below, aI X.cI 8 s_below)] := by
  intro s_above s_below r_s_above r_s_below h
  rw [wp_X7_hold_28] at h
  refine q_iconst g (-1) dX7_hold_28 ?_
  exact q_iret g hF ⟨(-1), s_above, s_below, rfl, rfl, (r32_lit _ (by decide)), r_s_above, r_s_below, h⟩ dX7_hold_29
def wp_X7_hold (Q : Int → (Int → Int) → (Int → Int) → Prop) (s_above : Int → Int) (s_below : Int → Int) (l1 : Int) (l2 : Int) (l3 : Int) : Prop := wp_X7_isRegister (fun (x1 : Int) => ((x1 = 0 → wp_X7_hold_28 Q s_above s_below) ∧
  (¬ (x1 = 0) → ((l2 < 0 → wp_X7_hold_28 Q s_above s_below) ∧
  (¬ (l2 < 0) → ((1000000 < l2 → wp_X7_hold_28 Q s_above s_below) ∧
  (¬ (1000000 < l2) → ((l3 < 1 → wp_X7_hold_28 Q s_above s_below) ∧
  (¬ (l3 < 1) → ((l3 ≤ 1000000 → wp_X7_put (fun (x36 : Int) (s_above_36 : Int → Int) (s_below_36 : Int → Int) => Q x36 s_above_36 s_below_36) s_above s_below l1 l2 l3) ∧
  (¬ (l3 ≤ 1000000) → wp_X7_hold_28 Q s_above s_below))))))))))) l1
set_option maxHeartbeats 4000000 in
set_option maxRecDepth 100000 in
theorem c_X7_hold (l : Launch) (D : va_G) (cI cJ : ClassId) (zt : Nat) (hX7 : Nat) (aX7_above : Nat) (aX7_below : Nat) (hX3 : Nat) (hX2 : Nat) (hX1 : Nat) (hX6 : Nat) (hX0 : Nat) (hX5 : Nat) (s_above : Int → Int) (s_below : Int → Int) (l1 : Int) (l2 : Int) (l3 : Int) (Q : Int → (Int → Int) → (Int → Int) → Prop) (r_s_above : rr32 s_above) (r_s_below : rr32 s_below) (r_l1 : r32 l1) (r_l2 : r32 l2) (r_l3 : r32 l3) (h : wp_X7_hold Q s_above s_below l1 l2 l3) : Ct l D cI cJ zt yX7_hold cX7_hold 4 (some .int) 4 0 0 [.ref hX7, .int (i32 l1), .int (i32 l2), .int (i32 l3)] [(hX7, .inr (6, [.ref aX7_above, .ref aX7_below, .ref hX3, .ref hX2, .ref hX1, .ref hX6, .ref hX0, .ref hX5])), (aX7_above, aI cI 8 s_above), (aX7_below, aI cI 8 s_below)] (po_X7_hold cI cJ hX7 aX7_above aX7_below hX3 hX2 hX1 hX6 hX0 hX5 Q) := by
  refine ct_of (by decide +kernel) (Nat.le_of_ble_eq_true rfl) (fun X hl hDD hcI hcJ hzt hR hF hnm g => ?_)
  subst hl; subst hDD; subst hcI; subst hcJ; subst hzt
  show Wat X 0 0 0 [(0, .ref hX7), (1, .int (i32 l1)), (2, .int (i32 l2)), (3, .int (i32 l3))] [] [(hX7, .inr (6, [.ref aX7_above, .ref aX7_below, .ref hX3, .ref hX2, .ref hX1, .ref hX6, .ref hX0, .ref hX5])), (aX7_above, aI X.cI 8 s_above), (aX7_below, aI X.cI 8 s_below)]
  replace g : Gd X cX7_hold RX7 (some .int) 4 := g
  rw [wp_X7_hold] at h
  refine q_iload_n g 1 1 rfl dX7_hold_0 ?_
  refine q_callS (lev := 1) (mc := 0) (ms := 0) (As := [.int (i32 l1)]) g 64 (c_X7_isRegister X.l X.D X.cI X.cJ X.zt l1 _ r_l1 h) (wr := [(hX7, .inr (6, [.ref aX7_above, .ref aX7_below, .ref hX3, .ref hX2, .ref hX1, .ref hX6, .ref hX0, .ref hX5])), (aX7_above, aI X.cI 8 s_above), (aX7_below, aI X.cI 8 s_below)]) [] [0, 1, 2] rfl rfl rfl (by decide) (by decide) (by decide) wM_X7_64 wT_X7_isRegister wZ_X7 wC_X7_isRegister 1 rfl (by decide +kernel) (by rw [hR]; exact ⟨by show 1 + 1 ≤ 4; omega, by show 8 + (1 + 11) + 100 * 1 ≤ 100 * 4; omega⟩) (by rw [hR]; exact ⟨Nat.le_refl _, Nat.le_refl _⟩) (Nat.le_of_ble_eq_true rfl) rfl dX7_hold_1 (fun rv w1 hq => ?_)
  obtain ⟨x1, rfl, rfl, rx1, h⟩ := hq
  show Wat X 0 0 4 [(0, .ref hX7), (1, .int (i32 l1)), (2, .int (i32 l2)), (3, .int (i32 l3))] [.int (i32 x1)] [(hX7, .inr (6, [.ref aX7_above, .ref aX7_below, .ref hX3, .ref hX2, .ref hX1, .ref hX6, .ref hX0, .ref hX5])), (aX7_above, aI X.cI 8 s_above), (aX7_below, aI X.cI 8 s_below)]
  refine q_if_eq g (24) 28 rx1 (by decide) dX7_hold_4 (fun b4 => ?_) (fun b4 => ?_)
  · replace h := h.1 b4
    refine q_lv (lv' := []) [] rfl ?_
    exact s_X7_hold_28 g hR hX7 aX7_above aX7_below hX3 hX2 hX1 hX6 hX0 hX5 Q hF s_above s_below r_s_above r_s_below h
  replace h := h.2 b4
  refine q_iload_n g 2 2 rfl dX7_hold_7 ?_
  refine q_if_lt g (20) 28 r_l2 (by decide) dX7_hold_8 (fun b8 => ?_) (fun b8 => ?_)
  · replace h := h.1 b8
    refine q_lv (lv' := []) [] rfl ?_
    exact s_X7_hold_28 g hR hX7 aX7_above aX7_below hX3 hX2 hX1 hX6 hX0 hX5 Q hF s_above s_below r_s_above r_s_below h
  replace h := h.2 b8
  refine q_iload_n g 2 2 rfl dX7_hold_11 ?_
  refine q_ldc (w := 1000000) g 68 (1000000) (by decide +kernel) wK_X7_68 dX7_hold_12 ?_
  refine q_icmp_gt g (14) 28 r_l2 (r32_lit _ (by decide)) (by decide) dX7_hold_14 (fun b14 => ?_) (fun b14 => ?_)
  · replace h := h.1 b14
    refine q_lv (lv' := []) [] rfl ?_
    exact s_X7_hold_28 g hR hX7 aX7_above aX7_below hX3 hX2 hX1 hX6 hX0 hX5 Q hF s_above s_below r_s_above r_s_below h
  replace h := h.2 b14
  refine q_iload_n g 3 3 rfl dX7_hold_17 ?_
  refine q_iconst g (1) dX7_hold_18 ?_
  refine q_icmp_lt g (9) 28 r_l3 (r32_lit _ (by decide)) (by decide) dX7_hold_19 (fun b19 => ?_) (fun b19 => ?_)
  · replace h := h.1 b19
    refine q_lv (lv' := []) [] rfl ?_
    exact s_X7_hold_28 g hR hX7 aX7_above aX7_below hX3 hX2 hX1 hX6 hX0 hX5 Q hF s_above s_below r_s_above r_s_below h
  replace h := h.2 b19
  refine q_iload_n g 3 3 rfl dX7_hold_22 ?_
  refine q_ldc (w := 1000000) g 68 (1000000) (by decide +kernel) wK_X7_68 dX7_hold_23 ?_
  refine q_icmp_le g (5) 30 r_l3 (r32_lit _ (by decide)) (by decide) dX7_hold_25 (fun b25 => ?_) (fun b25 => ?_)
  · replace h := h.1 b25
    refine q_aload_n g 0 0 rfl dX7_hold_30 ?_
    refine q_iload_n g 1 1 rfl dX7_hold_31 ?_
    refine q_iload_n g 2 2 rfl dX7_hold_32 ?_
    refine q_i2l g r_l2 dX7_hold_33 ?_
    refine q_iload_n g 3 3 rfl dX7_hold_34 ?_
    refine q_i2l g r_l3 dX7_hold_35 ?_
    refine q_callV (lev := 3) (mc := 0) (ms := 0) g 69 (c_X7_put X.l X.D X.cI X.cJ X.zt hX7 aX7_above aX7_below hX3 hX2 hX1 hX6 hX0 hX5 s_above s_below l1 l2 l3 _ r_s_above r_s_below r_l1 (r32_64 r_l2) (r32_64 r_l3) h) (wr := []) [0, 1, 2] [] rfl rfl rfl (by decide) (by decide) (by decide) (ci := 6) rfl rfl rfl wM_X7_69 wI_X7_put wS_X7_put wZ_X7 wC_X7_put 3 rfl (by decide +kernel) (by rw [hR]; exact ⟨by show 3 + 1 ≤ 4; omega, by show 8 + (8 + 11) + 100 * 3 ≤ 100 * 4; omega⟩) (by rw [hR]; exact ⟨Nat.le_refl _, Nat.le_refl _⟩) (Nat.le_of_ble_eq_true rfl) rfl dX7_hold_36 (fun rv w1 hq => ?_)
    obtain ⟨x36, s_above_36, s_below_36, rfl, rfl, rx36, rs_above_36, rs_below_36, h⟩ := hq
    show Wat X 0 0 39 [(0, .ref hX7), (1, .int (i32 l1)), (2, .int (i32 l2)), (3, .int (i32 l3))] [.int (i32 x36)] [(hX7, .inr (6, [.ref aX7_above, .ref aX7_below, .ref hX3, .ref hX2, .ref hX1, .ref hX6, .ref hX0, .ref hX5])), (aX7_above, aI X.cI 8 s_above_36), (aX7_below, aI X.cI 8 s_below_36)]
    exact q_iret g hF ⟨x36, s_above_36, s_below_36, rfl, rfl, rx36, rs_above_36, rs_below_36, h⟩ dX7_hold_39
  replace h := h.2 b25
  refine q_lv (lv' := []) [] rfl ?_
  exact s_X7_hold_28 g hR hX7 aX7_above aX7_below hX3 hX2 hX1 hX6 hX0 hX5 Q hF s_above s_below r_s_above r_s_below h
theorem dX7_wholeLoaves_0 : decode cX7_wholeLoaves 0 = .ok (.lconst 0, 1) := by decide +kernel
theorem dX7_wholeLoaves_1 : decode cX7_wholeLoaves 1 = .ok (.lstore_n 3, 1) := by decide +kernel
theorem dX7_wholeLoaves_2 : decode cX7_wholeLoaves 2 = .ok (.iconst 0, 1) := by decide +kernel
theorem dX7_wholeLoaves_3 : decode cX7_wholeLoaves 3 = .ok (.istore 5, 2) := by decide +kernel
theorem dX7_wholeLoaves_5 : decode cX7_wholeLoaves 5 = .ok (.iload 5, 2) := by decide +kernel
theorem dX7_wholeLoaves_7 : decode cX7_wholeLoaves 7 = .ok (.iload_n 1, 1) := by decide +kernel
theorem dX7_wholeLoaves_8 : decode cX7_wholeLoaves 8 = .ok (.if_icmp .ge 26, 3) := by decide +kernel
theorem dX7_wholeLoaves_11 : decode cX7_wholeLoaves 11 = .ok (.lload_n 3, 1) := by decide +kernel
theorem dX7_wholeLoaves_12 : decode cX7_wholeLoaves 12 = .ok (.iload_n 2, 1) := by decide +kernel
theorem dX7_wholeLoaves_13 : decode cX7_wholeLoaves 13 = .ok (.i2l, 1) := by decide +kernel
theorem dX7_wholeLoaves_14 : decode cX7_wholeLoaves 14 = .ok (.aload_n 0, 1) := by decide +kernel
theorem dX7_wholeLoaves_15 : decode cX7_wholeLoaves 15 = .ok (.getfield 19, 3) := by decide +kernel
theorem dX7_wholeLoaves_18 : decode cX7_wholeLoaves 18 = .ok (.iload 5, 2) := by decide +kernel
theorem dX7_wholeLoaves_20 : decode cX7_wholeLoaves 20 = .ok (.invokevirtual 85, 3) := by decide +kernel
theorem dX7_wholeLoaves_23 : decode cX7_wholeLoaves 23 = .ok (.invokestatic 202, 3) := by decide +kernel
theorem dX7_wholeLoaves_26 : decode cX7_wholeLoaves 26 = .ok (.ladd, 1) := by decide +kernel
theorem dX7_wholeLoaves_27 : decode cX7_wholeLoaves 27 = .ok (.lstore_n 3, 1) := by decide +kernel
theorem dX7_wholeLoaves_28 : decode cX7_wholeLoaves 28 = .ok (.iinc 5 1, 3) := by decide +kernel
theorem dX7_wholeLoaves_31 : decode cX7_wholeLoaves 31 = .ok (.goto (-26), 3) := by decide +kernel
theorem dX7_wholeLoaves_34 : decode cX7_wholeLoaves 34 = .ok (.lload_n 3, 1) := by decide +kernel
theorem dX7_wholeLoaves_35 : decode cX7_wholeLoaves 35 = .ok (.lreturn, 1) := by decide +kernel
abbrev po_X7_wholeLoaves (cI cJ : ClassId) (hX7 : Nat) (aX7_above : Nat) (aX7_below : Nat) (hX3 : Nat) (hX2 : Nat) (hX1 : Nat) (hX6 : Nat) (hX0 : Nat) (hX5 : Nat) (aX3_shares : Nat) (r_size : Int) (r_shares : Int → Int) (Q : Int → Prop) : Option Value → va_W → Prop := fun rv w1 => ∃ (r0 : Int), rv = some (.long (i64 r0)) ∧ w1 = [(hX7, .inr (6, [.ref aX7_above, .ref aX7_below, .ref hX3, .ref hX2, .ref hX1, .ref hX6, .ref hX0, .ref hX5])), (hX3, .inr (3, [.ref aX3_shares, .int (i32 r_size)])), (aX3_shares, aL cJ 16 r_shares)] ∧ r64 r0 ∧ Q r0
def wp_X7_wholeLoaves_5 (Q : Int → Prop) (r_shares : Int → Int) (r_size : Int) : Nat → Int → Int → Int → Int → Prop
  | 0, _, _, _, _ => False
  | n + 1, l1, l2, l3, l5 => ((l1 ≤ l5 → Q l3) ∧
  (¬ (l1 ≤ l5) → wp_X3_at (fun (x20 : Int) => wp_X7_roundedUp (fun (x23 : Int) => (r64 (l3 + x23) ∧ ∀ x27 : Int, x27 = (l3 + x23) → r32 (l5 + 1) ∧ wp_X7_wholeLoaves_5 Q r_shares r_size n l1 l2 x27 (l5 + 1))) l2 x20) r_shares r_size l5))
set_option maxHeartbeats 4000000 in
set_option maxRecDepth 100000 in
theorem s_X7_wholeLoaves_5 {X : Cx} (g : Gd X cX7_wholeLoaves RX7 (some .long) 6) (hR : X.R = rmL 2 0 0) (hX7 : Nat) (aX7_above : Nat) (aX7_below : Nat) (hX3 : Nat) (hX2 : Nat) (hX1 : Nat) (hX6 : Nat) (hX0 : Nat) (hX5 : Nat) (aX3_shares : Nat) (r_shares : Int → Int) (r_size : Int) (r_r_shares : rr64 r_shares) (r_r_size : r32 r_size) (Q : Int → Prop) (hF : FQ X 0 0 (po_X7_wholeLoaves X.cI X.cJ hX7 aX7_above aX7_below hX3 hX2 hX1 hX6 hX0 hX5 aX3_shares r_size r_shares Q)) : ∀ (n : Nat) (l1 : Int) (l2 : Int) (l3 : Int) (l5 : Int), r32 l1 → r32 l2 → r64 l3 → r32 l5 → wp_X7_wholeLoaves_5 Q r_shares r_size n l1 l2 l3 l5 → Wat X 0 0 5 [(0, .ref hX7), (1, .int (i32 l1)), (2, .int (i32 l2)), (3, .long (i64 l3)), (5, .int (i32 l5))] [] [(hX7, .inr (6, [.ref aX7_above, .ref aX7_below, .ref hX3, .ref hX2, .ref hX1, .ref hX6, .ref hX0, .ref hX5])), (hX3, .inr (3, [.ref aX3_shares, .int (i32 r_size)])), (aX3_shares, aL X.cJ 16 r_shares)] := by
  intro n
  induction n with
  | zero => intro l1 l2 l3 l5 r_l1 r_l2 r_l3 r_l5 h; exact False.elim h
  | succ n ih =>
    intro l1 l2 l3 l5 r_l1 r_l2 r_l3 r_l5 h
    rw [wp_X7_wholeLoaves_5] at h
    refine q_iload g 5 4 rfl dX7_wholeLoaves_5 ?_
    refine q_iload_n g 1 1 rfl dX7_wholeLoaves_7 ?_
    refine q_icmp_ge g (26) 34 r_l5 r_l1 (by decide) dX7_wholeLoaves_8 (fun b8 => ?_) (fun b8 => ?_)
    · replace h := h.1 b8
      refine q_lload_n g 3 3 rfl dX7_wholeLoaves_34 ?_
      exact q_lret g hF ⟨l3, rfl, rfl, r_l3, h⟩ dX7_wholeLoaves_35
    replace h := h.2 b8
    refine q_lload_n g 3 3 rfl dX7_wholeLoaves_11 ?_
    refine q_iload_n g 2 2 rfl dX7_wholeLoaves_12 ?_
    refine q_i2l g r_l2 dX7_wholeLoaves_13 ?_
    refine q_aload_n g 0 0 rfl dX7_wholeLoaves_14 ?_
    refine q_get (C := RX7) (T := TX7) (N := 8) g 19 inX7 0 2 rfl rfl (by decide) wF_X7_19 rfl dX7_wholeLoaves_15 ?_
    refine q_iload g 5 4 rfl dX7_wholeLoaves_18 ?_
    refine q_callV (lev := 1) (mc := 0) (ms := 0) g 85 (c_X3_at X.l X.D X.cI X.cJ X.zt hX3 aX3_shares r_size r_shares l5 _ r_r_shares r_r_size r_l5 h) (wr := [(hX7, .inr (6, [.ref aX7_above, .ref aX7_below, .ref hX3, .ref hX2, .ref hX1, .ref hX6, .ref hX0, .ref hX5]))]) [1, 2] [0] rfl rfl rfl (by decide) (by decide) (by decide) (ci := 3) rfl rfl rfl wM_X7_85 wI_X3_at wS_X3_at wZ_X3 wC_X3_at 1 rfl (by decide +kernel) (by rw [hR]; exact ⟨by show 1 + 1 ≤ 2; omega, by show 8 + (2 + 11) + 100 * 1 ≤ 100 * 2; omega⟩) (by rw [hR]; exact ⟨Nat.le_refl _, Nat.le_refl _⟩) (Nat.le_of_ble_eq_true rfl) rfl dX7_wholeLoaves_20 (fun rv w1 hq => ?_)
    obtain ⟨x20, rfl, rfl, rx20, h⟩ := hq
    show Wat X 0 0 23 [(0, .ref hX7), (1, .int (i32 l1)), (2, .int (i32 l2)), (3, .long (i64 l3)), (5, .int (i32 l5))] [.long (i64 x20), .long (i64 l2), .long (i64 l3)] [(hX7, .inr (6, [.ref aX7_above, .ref aX7_below, .ref hX3, .ref hX2, .ref hX1, .ref hX6, .ref hX0, .ref hX5])), (hX3, .inr (3, [.ref aX3_shares, .int (i32 r_size)])), (aX3_shares, aL X.cJ 16 r_shares)]
    refine q_callS (lev := 1) (mc := 0) (ms := 0) (As := [.long (i64 l2), .long (i64 x20)]) g 202 (c_X7_roundedUp X.l X.D X.cI X.cJ X.zt l2 x20 _ (r32_64 r_l2) rx20 h) (wr := [(hX7, .inr (6, [.ref aX7_above, .ref aX7_below, .ref hX3, .ref hX2, .ref hX1, .ref hX6, .ref hX0, .ref hX5])), (hX3, .inr (3, [.ref aX3_shares, .int (i32 r_size)])), (aX3_shares, aL X.cJ 16 r_shares)]) [] [0, 1, 2] rfl rfl rfl (by decide) (by decide) (by decide) wM_X7_202 wT_X7_roundedUp wZ_X7 wC_X7_roundedUp 2 rfl (by decide +kernel) (by rw [hR]; exact ⟨by show 1 + 1 ≤ 2; omega, by show 8 + (4 + 11) + 100 * 1 ≤ 100 * 2; omega⟩) (by rw [hR]; exact ⟨Nat.le_refl _, Nat.le_refl _⟩) (Nat.le_of_ble_eq_true rfl) rfl dX7_wholeLoaves_23 (fun rv w1 hq => ?_)
    obtain ⟨x23, rfl, rfl, rx23, h⟩ := hq
    show Wat X 0 0 26 [(0, .ref hX7), (1, .int (i32 l1)), (2, .int (i32 l2)), (3, .long (i64 l3)), (5, .int (i32 l5))] [.long (i64 x23), .long (i64 l3)] [(hX7, .inr (6, [.ref aX7_above, .ref aX7_below, .ref hX3, .ref hX2, .ref hX1, .ref hX6, .ref hX0, .ref hX5])), (hX3, .inr (3, [.ref aX3_shares, .int (i32 r_size)])), (aX3_shares, aL X.cJ 16 r_shares)]
    obtain ⟨c26, h⟩ := h
    refine q_ladd g dX7_wholeLoaves_26 ?_
    refine q_topl c26 (fun x27 ex27 rx27 => ?_)
    replace h := h x27 ex27
    refine q_lstore_n (lv' := [(3, .long (i64 x27)), (0, .ref hX7), (1, .int (i32 l1)), (2, .int (i32 l2)), (5, .int (i32 l5))]) g 3 3 rfl (by decide) rfl dX7_wholeLoaves_27 ?_
    obtain ⟨c28, h⟩ := h
    refine q_iinc (lv' := [(5, .int (i32 (l5 + 1))), (3, .long (i64 x27)), (0, .ref hX7), (1, .int (i32 l1)), (2, .int (i32 l2))]) g 5 4 1 (by decide) rfl rfl dX7_wholeLoaves_28 ?_
    refine q_goto g (-26) 5 (by decide) dX7_wholeLoaves_31 ?_
    refine q_lv (lv' := [(0, .ref hX7), (1, .int (i32 l1)), (2, .int (i32 l2)), (3, .long (i64 x27)), (5, .int (i32 (l5 + 1)))]) [2, 3, 4, 1, 0] rfl ?_
    exact ih l1 l2 x27 (l5 + 1) r_l1 r_l2 rx27 c28 h
def wp_X7_wholeLoaves (Q : Int → Prop) (r_shares : Int → Int) (r_size : Int) (l1 : Int) (l2 : Int) : Prop := (∃ n0 : Nat, wp_X7_wholeLoaves_5 Q r_shares r_size n0 l1 l2 0 0)
set_option maxHeartbeats 4000000 in
set_option maxRecDepth 100000 in
theorem c_X7_wholeLoaves (l : Launch) (D : va_G) (cI cJ : ClassId) (zt : Nat) (hX7 : Nat) (aX7_above : Nat) (aX7_below : Nat) (hX3 : Nat) (hX2 : Nat) (hX1 : Nat) (hX6 : Nat) (hX0 : Nat) (hX5 : Nat) (aX3_shares : Nat) (r_size : Int) (r_shares : Int → Int) (l1 : Int) (l2 : Int) (Q : Int → Prop) (r_r_shares : rr64 r_shares) (r_r_size : r32 r_size) (r_l1 : r32 l1) (r_l2 : r32 l2) (h : wp_X7_wholeLoaves Q r_shares r_size l1 l2) : Ct l D cI cJ zt yX7_wholeLoaves cX7_wholeLoaves 6 (some .long) 2 0 0 [.ref hX7, .int (i32 l1), .int (i32 l2)] [(hX7, .inr (6, [.ref aX7_above, .ref aX7_below, .ref hX3, .ref hX2, .ref hX1, .ref hX6, .ref hX0, .ref hX5])), (hX3, .inr (3, [.ref aX3_shares, .int (i32 r_size)])), (aX3_shares, aL cJ 16 r_shares)] (po_X7_wholeLoaves cI cJ hX7 aX7_above aX7_below hX3 hX2 hX1 hX6 hX0 hX5 aX3_shares r_size r_shares Q) := by
  refine ct_of (by decide +kernel) (Nat.le_of_ble_eq_true rfl) (fun X hl hDD hcI hcJ hzt hR hF hnm g => ?_)
  subst hl; subst hDD; subst hcI; subst hcJ; subst hzt
  show Wat X 0 0 0 [(0, .ref hX7), (1, .int (i32 l1)), (2, .int (i32 l2))] [] [(hX7, .inr (6, [.ref aX7_above, .ref aX7_below, .ref hX3, .ref hX2, .ref hX1, .ref hX6, .ref hX0, .ref hX5])), (hX3, .inr (3, [.ref aX3_shares, .int (i32 r_size)])), (aX3_shares, aL X.cJ 16 r_shares)]
  replace g : Gd X cX7_wholeLoaves RX7 (some .long) 6 := g
  rw [wp_X7_wholeLoaves] at h
  refine q_lconst g 0 0 rfl dX7_wholeLoaves_0 ?_
  refine q_lstore_n (lv' := [(3, .long (i64 0)), (0, .ref hX7), (1, .int (i32 l1)), (2, .int (i32 l2))]) g 3 3 rfl (by decide) rfl dX7_wholeLoaves_1 ?_
  refine q_iconst g (0) dX7_wholeLoaves_2 ?_
  refine q_istore (lv' := [(5, .int (i32 0)), (3, .long (i64 0)), (0, .ref hX7), (1, .int (i32 l1)), (2, .int (i32 l2))]) g 5   (by decide) rfl dX7_wholeLoaves_3 ?_
  refine q_lv (lv' := [(0, .ref hX7), (1, .int (i32 l1)), (2, .int (i32 l2)), (3, .long (i64 0)), (5, .int (i32 0))]) [2, 3, 4, 1, 0] rfl ?_
  obtain ⟨n0, h⟩ := h
  exact s_X7_wholeLoaves_5 g hR hX7 aX7_above aX7_below hX3 hX2 hX1 hX6 hX0 hX5 aX3_shares r_shares r_size r_r_shares r_r_size Q hF n0 l1 l2 0 0 r_l1 r_l2 (r64_lit _ (by decide)) (r32_lit _ (by decide)) h
theorem dX7_piecesLeft_0 : decode cX7_piecesLeft 0 = .ok (.lconst 0, 1) := by decide +kernel
theorem dX7_piecesLeft_1 : decode cX7_piecesLeft 1 = .ok (.lstore_n 3, 1) := by decide +kernel
theorem dX7_piecesLeft_2 : decode cX7_piecesLeft 2 = .ok (.iconst 0, 1) := by decide +kernel
theorem dX7_piecesLeft_3 : decode cX7_piecesLeft 3 = .ok (.istore 5, 2) := by decide +kernel
theorem dX7_piecesLeft_5 : decode cX7_piecesLeft 5 = .ok (.iload 5, 2) := by decide +kernel
theorem dX7_piecesLeft_7 : decode cX7_piecesLeft 7 = .ok (.iload_n 1, 1) := by decide +kernel
theorem dX7_piecesLeft_8 : decode cX7_piecesLeft 8 = .ok (.if_icmp .ge 36, 3) := by decide +kernel
theorem dX7_piecesLeft_11 : decode cX7_piecesLeft 11 = .ok (.aload_n 0, 1) := by decide +kernel
theorem dX7_piecesLeft_12 : decode cX7_piecesLeft 12 = .ok (.getfield 19, 3) := by decide +kernel
theorem dX7_piecesLeft_15 : decode cX7_piecesLeft 15 = .ok (.iload 5, 2) := by decide +kernel
theorem dX7_piecesLeft_17 : decode cX7_piecesLeft 17 = .ok (.invokevirtual 85, 3) := by decide +kernel
theorem dX7_piecesLeft_20 : decode cX7_piecesLeft 20 = .ok (.lstore 6, 2) := by decide +kernel
theorem dX7_piecesLeft_22 : decode cX7_piecesLeft 22 = .ok (.lload_n 3, 1) := by decide +kernel
theorem dX7_piecesLeft_23 : decode cX7_piecesLeft 23 = .ok (.iload_n 2, 1) := by decide +kernel
theorem dX7_piecesLeft_24 : decode cX7_piecesLeft 24 = .ok (.i2l, 1) := by decide +kernel
theorem dX7_piecesLeft_25 : decode cX7_piecesLeft 25 = .ok (.lload 6, 2) := by decide +kernel
theorem dX7_piecesLeft_27 : decode cX7_piecesLeft 27 = .ok (.invokestatic 202, 3) := by decide +kernel
theorem dX7_piecesLeft_30 : decode cX7_piecesLeft 30 = .ok (.lload 6, 2) := by decide +kernel
theorem dX7_piecesLeft_32 : decode cX7_piecesLeft 32 = .ok (.lmul, 1) := by decide +kernel
theorem dX7_piecesLeft_33 : decode cX7_piecesLeft 33 = .ok (.iload_n 2, 1) := by decide +kernel
theorem dX7_piecesLeft_34 : decode cX7_piecesLeft 34 = .ok (.i2l, 1) := by decide +kernel
theorem dX7_piecesLeft_35 : decode cX7_piecesLeft 35 = .ok (.lsub, 1) := by decide +kernel
theorem dX7_piecesLeft_36 : decode cX7_piecesLeft 36 = .ok (.ladd, 1) := by decide +kernel
theorem dX7_piecesLeft_37 : decode cX7_piecesLeft 37 = .ok (.lstore_n 3, 1) := by decide +kernel
theorem dX7_piecesLeft_38 : decode cX7_piecesLeft 38 = .ok (.iinc 5 1, 3) := by decide +kernel
theorem dX7_piecesLeft_41 : decode cX7_piecesLeft 41 = .ok (.goto (-36), 3) := by decide +kernel
theorem dX7_piecesLeft_44 : decode cX7_piecesLeft 44 = .ok (.lload_n 3, 1) := by decide +kernel
theorem dX7_piecesLeft_45 : decode cX7_piecesLeft 45 = .ok (.lreturn, 1) := by decide +kernel
abbrev po_X7_piecesLeft (cI cJ : ClassId) (hX7 : Nat) (aX7_above : Nat) (aX7_below : Nat) (hX3 : Nat) (hX2 : Nat) (hX1 : Nat) (hX6 : Nat) (hX0 : Nat) (hX5 : Nat) (aX3_shares : Nat) (r_size : Int) (r_shares : Int → Int) (Q : Int → Prop) : Option Value → va_W → Prop := fun rv w1 => ∃ (r0 : Int), rv = some (.long (i64 r0)) ∧ w1 = [(hX7, .inr (6, [.ref aX7_above, .ref aX7_below, .ref hX3, .ref hX2, .ref hX1, .ref hX6, .ref hX0, .ref hX5])), (hX3, .inr (3, [.ref aX3_shares, .int (i32 r_size)])), (aX3_shares, aL cJ 16 r_shares)] ∧ r64 r0 ∧ Q r0
def wp_X7_piecesLeft_5 (Q : Int → Prop) (r_shares : Int → Int) (r_size : Int) : Nat → Int → Int → Int → Int → Prop
  | 0, _, _, _, _ => False
  | n + 1, l1, l2, l3, l5 => ((l1 ≤ l5 → Q l3) ∧
  (¬ (l1 ≤ l5) → wp_X3_at (fun (x17 : Int) => wp_X7_roundedUp (fun (x27 : Int) => (r64 (x27 * x17) ∧ r64 ((x27 * x17) - l2) ∧ r64 (l3 + ((x27 * x17) - l2)) ∧ ∀ x37 : Int, x37 = (l3 + ((x27 * x17) - l2)) → r32 (l5 + 1) ∧ wp_X7_piecesLeft_5 Q r_shares r_size n l1 l2 x37 (l5 + 1))) l2 x17) r_shares r_size l5))
set_option maxHeartbeats 4000000 in
set_option maxRecDepth 100000 in
theorem s_X7_piecesLeft_5 {X : Cx} (g : Gd X cX7_piecesLeft RX7 (some .long) 8) (hR : X.R = rmL 2 0 0) (hX7 : Nat) (aX7_above : Nat) (aX7_below : Nat) (hX3 : Nat) (hX2 : Nat) (hX1 : Nat) (hX6 : Nat) (hX0 : Nat) (hX5 : Nat) (aX3_shares : Nat) (r_shares : Int → Int) (r_size : Int) (r_r_shares : rr64 r_shares) (r_r_size : r32 r_size) (Q : Int → Prop) (hF : FQ X 0 0 (po_X7_piecesLeft X.cI X.cJ hX7 aX7_above aX7_below hX3 hX2 hX1 hX6 hX0 hX5 aX3_shares r_size r_shares Q)) : ∀ (n : Nat) (l1 : Int) (l2 : Int) (l3 : Int) (l5 : Int), r32 l1 → r32 l2 → r64 l3 → r32 l5 → wp_X7_piecesLeft_5 Q r_shares r_size n l1 l2 l3 l5 → Wat X 0 0 5 [(0, .ref hX7), (1, .int (i32 l1)), (2, .int (i32 l2)), (3, .long (i64 l3)), (5, .int (i32 l5))] [] [(hX7, .inr (6, [.ref aX7_above, .ref aX7_below, .ref hX3, .ref hX2, .ref hX1, .ref hX6, .ref hX0, .ref hX5])), (hX3, .inr (3, [.ref aX3_shares, .int (i32 r_size)])), (aX3_shares, aL X.cJ 16 r_shares)] := by
  intro n
  induction n with
  | zero => intro l1 l2 l3 l5 r_l1 r_l2 r_l3 r_l5 h; exact False.elim h
  | succ n ih =>
    intro l1 l2 l3 l5 r_l1 r_l2 r_l3 r_l5 h
    rw [wp_X7_piecesLeft_5] at h
    refine q_iload g 5 4 rfl dX7_piecesLeft_5 ?_
    refine q_iload_n g 1 1 rfl dX7_piecesLeft_7 ?_
    refine q_icmp_ge g (36) 44 r_l5 r_l1 (by decide) dX7_piecesLeft_8 (fun b8 => ?_) (fun b8 => ?_)
    · replace h := h.1 b8
      refine q_lload_n g 3 3 rfl dX7_piecesLeft_44 ?_
      exact q_lret g hF ⟨l3, rfl, rfl, r_l3, h⟩ dX7_piecesLeft_45
    replace h := h.2 b8
    refine q_aload_n g 0 0 rfl dX7_piecesLeft_11 ?_
    refine q_get (C := RX7) (T := TX7) (N := 8) g 19 inX7 0 2 rfl rfl (by decide) wF_X7_19 rfl dX7_piecesLeft_12 ?_
    refine q_iload g 5 4 rfl dX7_piecesLeft_15 ?_
    refine q_callV (lev := 1) (mc := 0) (ms := 0) g 85 (c_X3_at X.l X.D X.cI X.cJ X.zt hX3 aX3_shares r_size r_shares l5 _ r_r_shares r_r_size r_l5 h) (wr := [(hX7, .inr (6, [.ref aX7_above, .ref aX7_below, .ref hX3, .ref hX2, .ref hX1, .ref hX6, .ref hX0, .ref hX5]))]) [1, 2] [0] rfl rfl rfl (by decide) (by decide) (by decide) (ci := 3) rfl rfl rfl wM_X7_85 wI_X3_at wS_X3_at wZ_X3 wC_X3_at 1 rfl (by decide +kernel) (by rw [hR]; exact ⟨by show 1 + 1 ≤ 2; omega, by show 8 + (2 + 11) + 100 * 1 ≤ 100 * 2; omega⟩) (by rw [hR]; exact ⟨Nat.le_refl _, Nat.le_refl _⟩) (Nat.le_of_ble_eq_true rfl) rfl dX7_piecesLeft_17 (fun rv w1 hq => ?_)
    obtain ⟨x17, rfl, rfl, rx17, h⟩ := hq
    show Wat X 0 0 20 [(0, .ref hX7), (1, .int (i32 l1)), (2, .int (i32 l2)), (3, .long (i64 l3)), (5, .int (i32 l5))] [.long (i64 x17)] [(hX7, .inr (6, [.ref aX7_above, .ref aX7_below, .ref hX3, .ref hX2, .ref hX1, .ref hX6, .ref hX0, .ref hX5])), (hX3, .inr (3, [.ref aX3_shares, .int (i32 r_size)])), (aX3_shares, aL X.cJ 16 r_shares)]
    refine q_lstore (lv' := [(6, .long (i64 x17)), (0, .ref hX7), (1, .int (i32 l1)), (2, .int (i32 l2)), (3, .long (i64 l3)), (5, .int (i32 l5))]) g 6   (by decide) rfl dX7_piecesLeft_20 ?_
    refine q_lload_n g 3 4 rfl dX7_piecesLeft_22 ?_
    refine q_iload_n g 2 3 rfl dX7_piecesLeft_23 ?_
    refine q_i2l g r_l2 dX7_piecesLeft_24 ?_
    refine q_lload g 6 0 rfl dX7_piecesLeft_25 ?_
    refine q_callS (lev := 1) (mc := 0) (ms := 0) (As := [.long (i64 l2), .long (i64 x17)]) g 202 (c_X7_roundedUp X.l X.D X.cI X.cJ X.zt l2 x17 _ (r32_64 r_l2) rx17 h) (wr := [(hX7, .inr (6, [.ref aX7_above, .ref aX7_below, .ref hX3, .ref hX2, .ref hX1, .ref hX6, .ref hX0, .ref hX5])), (hX3, .inr (3, [.ref aX3_shares, .int (i32 r_size)])), (aX3_shares, aL X.cJ 16 r_shares)]) [] [0, 1, 2] rfl rfl rfl (by decide) (by decide) (by decide) wM_X7_202 wT_X7_roundedUp wZ_X7 wC_X7_roundedUp 2 rfl (by decide +kernel) (by rw [hR]; exact ⟨by show 1 + 1 ≤ 2; omega, by show 8 + (4 + 11) + 100 * 1 ≤ 100 * 2; omega⟩) (by rw [hR]; exact ⟨Nat.le_refl _, Nat.le_refl _⟩) (Nat.le_of_ble_eq_true rfl) rfl dX7_piecesLeft_27 (fun rv w1 hq => ?_)
    obtain ⟨x27, rfl, rfl, rx27, h⟩ := hq
    show Wat X 0 0 30 [(6, .long (i64 x17)), (0, .ref hX7), (1, .int (i32 l1)), (2, .int (i32 l2)), (3, .long (i64 l3)), (5, .int (i32 l5))] [.long (i64 x27), .long (i64 l3)] [(hX7, .inr (6, [.ref aX7_above, .ref aX7_below, .ref hX3, .ref hX2, .ref hX1, .ref hX6, .ref hX0, .ref hX5])), (hX3, .inr (3, [.ref aX3_shares, .int (i32 r_size)])), (aX3_shares, aL X.cJ 16 r_shares)]
    refine q_lload g 6 0 rfl dX7_piecesLeft_30 ?_
    obtain ⟨c32, h⟩ := h
    refine q_lmul g dX7_piecesLeft_32 ?_
    refine q_iload_n g 2 3 rfl dX7_piecesLeft_33 ?_
    refine q_i2l g r_l2 dX7_piecesLeft_34 ?_
    obtain ⟨c35, h⟩ := h
    refine q_lsub g dX7_piecesLeft_35 ?_
    obtain ⟨c36, h⟩ := h
    refine q_ladd g dX7_piecesLeft_36 ?_
    refine q_topl c36 (fun x37 ex37 rx37 => ?_)
    replace h := h x37 ex37
    refine q_lstore_n (lv' := [(3, .long (i64 x37)), (6, .long (i64 x17)), (0, .ref hX7), (1, .int (i32 l1)), (2, .int (i32 l2)), (5, .int (i32 l5))]) g 3 3 rfl (by decide) rfl dX7_piecesLeft_37 ?_
    obtain ⟨c38, h⟩ := h
    refine q_iinc (lv' := [(5, .int (i32 (l5 + 1))), (3, .long (i64 x37)), (6, .long (i64 x17)), (0, .ref hX7), (1, .int (i32 l1)), (2, .int (i32 l2))]) g 5 5 1 (by decide) rfl rfl dX7_piecesLeft_38 ?_
    refine q_goto g (-36) 5 (by decide) dX7_piecesLeft_41 ?_
    refine q_lv (lv' := [(0, .ref hX7), (1, .int (i32 l1)), (2, .int (i32 l2)), (3, .long (i64 x37)), (5, .int (i32 (l5 + 1)))]) [3, 4, 5, 1, 0] rfl ?_
    exact ih l1 l2 x37 (l5 + 1) r_l1 r_l2 rx37 c38 h
def wp_X7_piecesLeft (Q : Int → Prop) (r_shares : Int → Int) (r_size : Int) (l1 : Int) (l2 : Int) : Prop := (∃ n0 : Nat, wp_X7_piecesLeft_5 Q r_shares r_size n0 l1 l2 0 0)
set_option maxHeartbeats 4000000 in
set_option maxRecDepth 100000 in
theorem c_X7_piecesLeft (l : Launch) (D : va_G) (cI cJ : ClassId) (zt : Nat) (hX7 : Nat) (aX7_above : Nat) (aX7_below : Nat) (hX3 : Nat) (hX2 : Nat) (hX1 : Nat) (hX6 : Nat) (hX0 : Nat) (hX5 : Nat) (aX3_shares : Nat) (r_size : Int) (r_shares : Int → Int) (l1 : Int) (l2 : Int) (Q : Int → Prop) (r_r_shares : rr64 r_shares) (r_r_size : r32 r_size) (r_l1 : r32 l1) (r_l2 : r32 l2) (h : wp_X7_piecesLeft Q r_shares r_size l1 l2) : Ct l D cI cJ zt yX7_piecesLeft cX7_piecesLeft 8 (some .long) 2 0 0 [.ref hX7, .int (i32 l1), .int (i32 l2)] [(hX7, .inr (6, [.ref aX7_above, .ref aX7_below, .ref hX3, .ref hX2, .ref hX1, .ref hX6, .ref hX0, .ref hX5])), (hX3, .inr (3, [.ref aX3_shares, .int (i32 r_size)])), (aX3_shares, aL cJ 16 r_shares)] (po_X7_piecesLeft cI cJ hX7 aX7_above aX7_below hX3 hX2 hX1 hX6 hX0 hX5 aX3_shares r_size r_shares Q) := by
  refine ct_of (by decide +kernel) (Nat.le_of_ble_eq_true rfl) (fun X hl hDD hcI hcJ hzt hR hF hnm g => ?_)
  subst hl; subst hDD; subst hcI; subst hcJ; subst hzt
  show Wat X 0 0 0 [(0, .ref hX7), (1, .int (i32 l1)), (2, .int (i32 l2))] [] [(hX7, .inr (6, [.ref aX7_above, .ref aX7_below, .ref hX3, .ref hX2, .ref hX1, .ref hX6, .ref hX0, .ref hX5])), (hX3, .inr (3, [.ref aX3_shares, .int (i32 r_size)])), (aX3_shares, aL X.cJ 16 r_shares)]
  replace g : Gd X cX7_piecesLeft RX7 (some .long) 8 := g
  rw [wp_X7_piecesLeft] at h
  refine q_lconst g 0 0 rfl dX7_piecesLeft_0 ?_
  refine q_lstore_n (lv' := [(3, .long (i64 0)), (0, .ref hX7), (1, .int (i32 l1)), (2, .int (i32 l2))]) g 3 3 rfl (by decide) rfl dX7_piecesLeft_1 ?_
  refine q_iconst g (0) dX7_piecesLeft_2 ?_
  refine q_istore (lv' := [(5, .int (i32 0)), (3, .long (i64 0)), (0, .ref hX7), (1, .int (i32 l1)), (2, .int (i32 l2))]) g 5   (by decide) rfl dX7_piecesLeft_3 ?_
  refine q_lv (lv' := [(0, .ref hX7), (1, .int (i32 l1)), (2, .int (i32 l2)), (3, .long (i64 0)), (5, .int (i32 0))]) [2, 3, 4, 1, 0] rfl ?_
  obtain ⟨n0, h⟩ := h
  exact s_X7_piecesLeft_5 g hR hX7 aX7_above aX7_below hX3 hX2 hX1 hX6 hX0 hX5 aX3_shares r_shares r_size r_r_shares r_r_size Q hF n0 l1 l2 0 0 r_l1 r_l2 (r64_lit _ (by decide)) (r32_lit _ (by decide)) h
theorem dX7_loaves_0 : decode cX7_loaves 0 = .ok (.iload_n 1, 1) := by decide +kernel
theorem dX7_loaves_1 : decode cX7_loaves 1 = .ok (.invokestatic 76, 3) := by decide +kernel
theorem dX7_loaves_4 : decode cX7_loaves 4 = .ok (.ifCond .eq 31, 3) := by decide +kernel
theorem dX7_loaves_7 : decode cX7_loaves 7 = .ok (.iload_n 2, 1) := by decide +kernel
theorem dX7_loaves_8 : decode cX7_loaves 8 = .ok (.iconst 1, 1) := by decide +kernel
theorem dX7_loaves_9 : decode cX7_loaves 9 = .ok (.if_icmp .lt 26, 3) := by decide +kernel
theorem dX7_loaves_12 : decode cX7_loaves 12 = .ok (.iload_n 3, 1) := by decide +kernel
theorem dX7_loaves_13 : decode cX7_loaves 13 = .ok (.sipush 1000, 3) := by decide +kernel
theorem dX7_loaves_16 : decode cX7_loaves 16 = .ok (.if_icmp .gt 19, 3) := by decide +kernel
theorem dX7_loaves_19 : decode cX7_loaves 19 = .ok (.iload_n 2, 1) := by decide +kernel
theorem dX7_loaves_20 : decode cX7_loaves 20 = .ok (.iload_n 3, 1) := by decide +kernel
theorem dX7_loaves_21 : decode cX7_loaves 21 = .ok (.if_icmp .ge 14, 3) := by decide +kernel
theorem dX7_loaves_24 : decode cX7_loaves 24 = .ok (.iload 4, 2) := by decide +kernel
theorem dX7_loaves_26 : decode cX7_loaves 26 = .ok (.ifCond .lt 9, 3) := by decide +kernel
theorem dX7_loaves_29 : decode cX7_loaves 29 = .ok (.iload 4, 2) := by decide +kernel
theorem dX7_loaves_31 : decode cX7_loaves 31 = .ok (.iconst 2, 1) := by decide +kernel
theorem dX7_loaves_32 : decode cX7_loaves 32 = .ok (.if_icmp .le 7, 3) := by decide +kernel
theorem dX7_loaves_35 : decode cX7_loaves 35 = .ok (.ldc2_w 83, 3) := by decide +kernel
theorem dX7_loaves_38 : decode cX7_loaves 38 = .ok (.lreturn, 1) := by decide +kernel
theorem dX7_loaves_39 : decode cX7_loaves 39 = .ok (.iload_n 2, 1) := by decide +kernel
theorem dX7_loaves_40 : decode cX7_loaves 40 = .ok (.i2l, 1) := by decide +kernel
theorem dX7_loaves_41 : decode cX7_loaves 41 = .ok (.iload_n 3, 1) := by decide +kernel
theorem dX7_loaves_42 : decode cX7_loaves 42 = .ok (.i2l, 1) := by decide +kernel
theorem dX7_loaves_43 : decode cX7_loaves 43 = .ok (.invokestatic 176, 3) := by decide +kernel
theorem dX7_loaves_46 : decode cX7_loaves 46 = .ok (.l2i, 1) := by decide +kernel
theorem dX7_loaves_47 : decode cX7_loaves 47 = .ok (.istore 5, 2) := by decide +kernel
theorem dX7_loaves_49 : decode cX7_loaves 49 = .ok (.aload_n 0, 1) := by decide +kernel
theorem dX7_loaves_50 : decode cX7_loaves 50 = .ok (.iload_n 1, 1) := by decide +kernel
theorem dX7_loaves_51 : decode cX7_loaves 51 = .ok (.iload_n 2, 1) := by decide +kernel
theorem dX7_loaves_52 : decode cX7_loaves 52 = .ok (.iload 5, 2) := by decide +kernel
theorem dX7_loaves_54 : decode cX7_loaves 54 = .ok (.idiv, 1) := by decide +kernel
theorem dX7_loaves_55 : decode cX7_loaves 55 = .ok (.iload_n 3, 1) := by decide +kernel
theorem dX7_loaves_56 : decode cX7_loaves 56 = .ok (.iload 5, 2) := by decide +kernel
theorem dX7_loaves_58 : decode cX7_loaves 58 = .ok (.idiv, 1) := by decide +kernel
theorem dX7_loaves_59 : decode cX7_loaves 59 = .ok (.invokevirtual 79, 3) := by decide +kernel
theorem dX7_loaves_62 : decode cX7_loaves 62 = .ok (.istore 6, 2) := by decide +kernel
theorem dX7_loaves_64 : decode cX7_loaves 64 = .ok (.iload 6, 2) := by decide +kernel
theorem dX7_loaves_66 : decode cX7_loaves 66 = .ok (.ifCond .ge 7, 3) := by decide +kernel
theorem dX7_loaves_69 : decode cX7_loaves 69 = .ok (.iload 6, 2) := by decide +kernel
theorem dX7_loaves_71 : decode cX7_loaves 71 = .ok (.i2l, 1) := by decide +kernel
theorem dX7_loaves_72 : decode cX7_loaves 72 = .ok (.lreturn, 1) := by decide +kernel
theorem dX7_loaves_73 : decode cX7_loaves 73 = .ok (.iload 4, 2) := by decide +kernel
theorem dX7_loaves_75 : decode cX7_loaves 75 = .ok (.ifCond .ne 10, 3) := by decide +kernel
theorem dX7_loaves_78 : decode cX7_loaves 78 = .ok (.iload 6, 2) := by decide +kernel
theorem dX7_loaves_80 : decode cX7_loaves 80 = .ok (.i2l, 1) := by decide +kernel
theorem dX7_loaves_81 : decode cX7_loaves 81 = .ok (.iload_n 3, 1) := by decide +kernel
theorem dX7_loaves_82 : decode cX7_loaves 82 = .ok (.i2l, 1) := by decide +kernel
theorem dX7_loaves_83 : decode cX7_loaves 83 = .ok (.lmul, 1) := by decide +kernel
theorem dX7_loaves_84 : decode cX7_loaves 84 = .ok (.lreturn, 1) := by decide +kernel
theorem dX7_loaves_85 : decode cX7_loaves 85 = .ok (.iload 4, 2) := by decide +kernel
theorem dX7_loaves_87 : decode cX7_loaves 87 = .ok (.iconst 1, 1) := by decide +kernel
theorem dX7_loaves_88 : decode cX7_loaves 88 = .ok (.if_icmp .ne 13, 3) := by decide +kernel
theorem dX7_loaves_91 : decode cX7_loaves 91 = .ok (.aload_n 0, 1) := by decide +kernel
theorem dX7_loaves_92 : decode cX7_loaves 92 = .ok (.iload 6, 2) := by decide +kernel
theorem dX7_loaves_94 : decode cX7_loaves 94 = .ok (.iload_n 3, 1) := by decide +kernel
theorem dX7_loaves_95 : decode cX7_loaves 95 = .ok (.invokevirtual 184, 3) := by decide +kernel
theorem dX7_loaves_98 : decode cX7_loaves 98 = .ok (.goto 10, 3) := by decide +kernel
theorem dX7_loaves_101 : decode cX7_loaves 101 = .ok (.aload_n 0, 1) := by decide +kernel
theorem dX7_loaves_102 : decode cX7_loaves 102 = .ok (.iload 6, 2) := by decide +kernel
theorem dX7_loaves_104 : decode cX7_loaves 104 = .ok (.iload_n 3, 1) := by decide +kernel
theorem dX7_loaves_105 : decode cX7_loaves 105 = .ok (.invokevirtual 187, 3) := by decide +kernel
theorem dX7_loaves_108 : decode cX7_loaves 108 = .ok (.lreturn, 1) := by decide +kernel
abbrev po_X7_loaves (cI cJ : ClassId) (hX7 : Nat) (aX7_above : Nat) (aX7_below : Nat) (hX3 : Nat) (hX2 : Nat) (hX1 : Nat) (hX6 : Nat) (hX0 : Nat) (hX5 : Nat) (aX3_shares : Nat) (Q : Int → (Int → Int) → Int → Prop) : Option Value → va_W → Prop := fun rv w1 => ∃ (r0 : Int) (r_shares : Int → Int) (r_size : Int), rv = some (.long (i64 r0)) ∧ w1 = [(hX7, .inr (6, [.ref aX7_above, .ref aX7_below, .ref hX3, .ref hX2, .ref hX1, .ref hX6, .ref hX0, .ref hX5])), (hX3, .inr (3, [.ref aX3_shares, .int (i32 r_size)])), (aX3_shares, aL cJ 16 r_shares)] ∧ r64 r0 ∧ rr64 r_shares ∧ r32 r_size ∧ Q r0 r_shares r_size
def wp_X7_loaves_35 (Q : Int → (Int → Int) → Int → Prop) (r_shares : Int → Int) (r_size : Int) : Prop := Q (-1) r_shares r_size
set_option maxHeartbeats 4000000 in
set_option maxRecDepth 100000 in
theorem s_X7_loaves_35 {X : Cx} (g : Gd X cX7_loaves RX7 (some .long) 7) (hR : X.R = rmL 7 0 0) (hX7 : Nat) (aX7_above : Nat) (aX7_below : Nat) (hX3 : Nat) (hX2 : Nat) (hX1 : Nat) (hX6 : Nat) (hX0 : Nat) (hX5 : Nat) (aX3_shares : Nat) (Q : Int → (Int → Int) → Int → Prop) (hF : FQ X 0 0 (po_X7_loaves X.cI X.cJ hX7 aX7_above aX7_below hX3 hX2 hX1 hX6 hX0 hX5 aX3_shares Q)) : ∀ (r_shares : Int → Int) (r_size : Int), rr64 r_shares → r32 r_size → wp_X7_loaves_35 Q r_shares r_size → Wat X 0 0 35 [] [] [(hX7, .inr (6, [.ref aX7_above, .ref aX7_below, .ref hX3, .ref hX2, .ref hX1, .ref hX6, .ref hX0, .ref hX5])), (hX3, .inr (3, [.ref aX3_shares, .int (i32 r_size)])), (aX3_shares, aL X.cJ 16 r_shares)] := by
  intro r_shares r_size r_r_shares r_r_size h
  rw [wp_X7_loaves_35] at h
  refine q_ldc2 (w := (-1)) g 83 (-1) (by decide +kernel) wL_X7_83 dX7_loaves_35 ?_
  exact q_lret g hF ⟨(-1), r_shares, r_size, rfl, rfl, (r64_lit _ (by decide)), r_r_shares, r_r_size, h⟩ dX7_loaves_38
def wp_X7_loaves_108 (Q : Int → (Int → Int) → Int → Prop) (r_shares : Int → Int) (r_size : Int) (k0 : Int) : Prop := Q k0 r_shares r_size
set_option maxHeartbeats 4000000 in
set_option maxRecDepth 100000 in
theorem s_X7_loaves_108 {X : Cx} (g : Gd X cX7_loaves RX7 (some .long) 7) (hR : X.R = rmL 7 0 0) (hX7 : Nat) (aX7_above : Nat) (aX7_below : Nat) (hX3 : Nat) (hX2 : Nat) (hX1 : Nat) (hX6 : Nat) (hX0 : Nat) (hX5 : Nat) (aX3_shares : Nat) (Q : Int → (Int → Int) → Int → Prop) (hF : FQ X 0 0 (po_X7_loaves X.cI X.cJ hX7 aX7_above aX7_below hX3 hX2 hX1 hX6 hX0 hX5 aX3_shares Q)) : ∀ (r_shares : Int → Int) (r_size : Int) (k0 : Int), rr64 r_shares → r32 r_size → r64 k0 → wp_X7_loaves_108 Q r_shares r_size k0 → Wat X 0 0 108 [] [.long (i64 k0)] [(hX7, .inr (6, [.ref aX7_above, .ref aX7_below, .ref hX3, .ref hX2, .ref hX1, .ref hX6, .ref hX0, .ref hX5])), (hX3, .inr (3, [.ref aX3_shares, .int (i32 r_size)])), (aX3_shares, aL X.cJ 16 r_shares)] := by
  intro r_shares r_size k0 r_r_shares r_r_size r_k0 h
  rw [wp_X7_loaves_108] at h
  exact q_lret g hF ⟨k0, r_shares, r_size, rfl, rfl, r_k0, r_r_shares, r_r_size, h⟩ dX7_loaves_108
def wp_X7_loaves (Q : Int → (Int → Int) → Int → Prop) (r_shares : Int → Int) (r_size : Int) (l1 : Int) (l2 : Int) (l3 : Int) (l4 : Int) : Prop := wp_X7_isRoad (fun (x1 : Int) => ((x1 = 0 → wp_X7_loaves_35 Q r_shares r_size) ∧
  (¬ (x1 = 0) → ((l2 < 1 → wp_X7_loaves_35 Q r_shares r_size) ∧
  (¬ (l2 < 1) → ((1000 < l3 → wp_X7_loaves_35 Q r_shares r_size) ∧
  (¬ (1000 < l3) → ((l3 ≤ l2 → wp_X7_loaves_35 Q r_shares r_size) ∧
  (¬ (l3 ≤ l2) → ((l4 < 0 → wp_X7_loaves_35 Q r_shares r_size) ∧
  (¬ (l4 < 0) → ((l4 ≤ 2 → wp_X7_commonDivisor (fun (x43 : Int) => (r32 x43 ∧ 0 < x43 ∧ 0 < x43 ∧ wp_X7_follow (fun (x59 : Int) (r_shares_59 : Int → Int) (r_size_59 : Int) => ((0 ≤ x59 → ((¬ l4 = 0 → ((¬ l4 = 1 → wp_X7_piecesLeft (fun (x105 : Int) => wp_X7_loaves_108 Q r_shares_59 r_size_59 x105) r_shares_59 r_size_59 x59 l3) ∧
  (l4 = 1 → wp_X7_wholeLoaves (fun (x95 : Int) => wp_X7_loaves_108 Q r_shares_59 r_size_59 x95) r_shares_59 r_size_59 x59 l3))) ∧
  (l4 = 0 → (r64 (x59 * l3) ∧ Q (x59 * l3) r_shares_59 r_size_59)))) ∧
  (¬ (0 ≤ x59) → Q x59 r_shares_59 r_size_59))) r_shares r_size l1 (l2.tdiv x43) (l3.tdiv x43))) l2 l3) ∧
  (¬ (l4 ≤ 2) → wp_X7_loaves_35 Q r_shares r_size))))))))))))) l1
set_option maxHeartbeats 4000000 in
set_option maxRecDepth 100000 in
theorem c_X7_loaves (l : Launch) (D : va_G) (cI cJ : ClassId) (zt : Nat) (hX7 : Nat) (aX7_above : Nat) (aX7_below : Nat) (hX3 : Nat) (hX2 : Nat) (hX1 : Nat) (hX6 : Nat) (hX0 : Nat) (hX5 : Nat) (aX3_shares : Nat) (r_size : Int) (r_shares : Int → Int) (l1 : Int) (l2 : Int) (l3 : Int) (l4 : Int) (Q : Int → (Int → Int) → Int → Prop) (r_r_shares : rr64 r_shares) (r_r_size : r32 r_size) (r_l1 : r32 l1) (r_l2 : r32 l2) (r_l3 : r32 l3) (r_l4 : r32 l4) (h : wp_X7_loaves Q r_shares r_size l1 l2 l3 l4) : Ct l D cI cJ zt yX7_loaves cX7_loaves 7 (some .long) 7 0 0 [.ref hX7, .int (i32 l1), .int (i32 l2), .int (i32 l3), .int (i32 l4)] [(hX7, .inr (6, [.ref aX7_above, .ref aX7_below, .ref hX3, .ref hX2, .ref hX1, .ref hX6, .ref hX0, .ref hX5])), (hX3, .inr (3, [.ref aX3_shares, .int (i32 r_size)])), (aX3_shares, aL cJ 16 r_shares)] (po_X7_loaves cI cJ hX7 aX7_above aX7_below hX3 hX2 hX1 hX6 hX0 hX5 aX3_shares Q) := by
  refine ct_of (by decide +kernel) (Nat.le_of_ble_eq_true rfl) (fun X hl hDD hcI hcJ hzt hR hF hnm g => ?_)
  subst hl; subst hDD; subst hcI; subst hcJ; subst hzt
  show Wat X 0 0 0 [(0, .ref hX7), (1, .int (i32 l1)), (2, .int (i32 l2)), (3, .int (i32 l3)), (4, .int (i32 l4))] [] [(hX7, .inr (6, [.ref aX7_above, .ref aX7_below, .ref hX3, .ref hX2, .ref hX1, .ref hX6, .ref hX0, .ref hX5])), (hX3, .inr (3, [.ref aX3_shares, .int (i32 r_size)])), (aX3_shares, aL X.cJ 16 r_shares)]
  replace g : Gd X cX7_loaves RX7 (some .long) 7 := g
  rw [wp_X7_loaves] at h
  refine q_iload_n g 1 1 rfl dX7_loaves_0 ?_
  refine q_callS (lev := 1) (mc := 0) (ms := 0) (As := [.int (i32 l1)]) g 76 (c_X7_isRoad X.l X.D X.cI X.cJ X.zt l1 _ r_l1 h) (wr := [(hX7, .inr (6, [.ref aX7_above, .ref aX7_below, .ref hX3, .ref hX2, .ref hX1, .ref hX6, .ref hX0, .ref hX5])), (hX3, .inr (3, [.ref aX3_shares, .int (i32 r_size)])), (aX3_shares, aL X.cJ 16 r_shares)]) [] [0, 1, 2] rfl rfl rfl (by decide) (by decide) (by decide) wM_X7_76 wT_X7_isRoad wZ_X7 wC_X7_isRoad 1 rfl (by decide +kernel) (by rw [hR]; exact ⟨by show 1 + 1 ≤ 7; omega, by show 8 + (1 + 11) + 100 * 1 ≤ 100 * 7; omega⟩) (by rw [hR]; exact ⟨Nat.le_refl _, Nat.le_refl _⟩) (Nat.le_of_ble_eq_true rfl) rfl dX7_loaves_1 (fun rv w1 hq => ?_)
  obtain ⟨x1, rfl, rfl, rx1, h⟩ := hq
  show Wat X 0 0 4 [(0, .ref hX7), (1, .int (i32 l1)), (2, .int (i32 l2)), (3, .int (i32 l3)), (4, .int (i32 l4))] [.int (i32 x1)] [(hX7, .inr (6, [.ref aX7_above, .ref aX7_below, .ref hX3, .ref hX2, .ref hX1, .ref hX6, .ref hX0, .ref hX5])), (hX3, .inr (3, [.ref aX3_shares, .int (i32 r_size)])), (aX3_shares, aL X.cJ 16 r_shares)]
  refine q_if_eq g (31) 35 rx1 (by decide) dX7_loaves_4 (fun b4 => ?_) (fun b4 => ?_)
  · replace h := h.1 b4
    refine q_lv (lv' := []) [] rfl ?_
    exact s_X7_loaves_35 g hR hX7 aX7_above aX7_below hX3 hX2 hX1 hX6 hX0 hX5 aX3_shares Q hF r_shares r_size r_r_shares r_r_size h
  replace h := h.2 b4
  refine q_iload_n g 2 2 rfl dX7_loaves_7 ?_
  refine q_iconst g (1) dX7_loaves_8 ?_
  refine q_icmp_lt g (26) 35 r_l2 (r32_lit _ (by decide)) (by decide) dX7_loaves_9 (fun b9 => ?_) (fun b9 => ?_)
  · replace h := h.1 b9
    refine q_lv (lv' := []) [] rfl ?_
    exact s_X7_loaves_35 g hR hX7 aX7_above aX7_below hX3 hX2 hX1 hX6 hX0 hX5 aX3_shares Q hF r_shares r_size r_r_shares r_r_size h
  replace h := h.2 b9
  refine q_iload_n g 3 3 rfl dX7_loaves_12 ?_
  refine q_sipush g (1000) (by decide) (by decide) dX7_loaves_13 ?_
  refine q_icmp_gt g (19) 35 r_l3 (r32_lit _ (by decide)) (by decide) dX7_loaves_16 (fun b16 => ?_) (fun b16 => ?_)
  · replace h := h.1 b16
    refine q_lv (lv' := []) [] rfl ?_
    exact s_X7_loaves_35 g hR hX7 aX7_above aX7_below hX3 hX2 hX1 hX6 hX0 hX5 aX3_shares Q hF r_shares r_size r_r_shares r_r_size h
  replace h := h.2 b16
  refine q_iload_n g 2 2 rfl dX7_loaves_19 ?_
  refine q_iload_n g 3 3 rfl dX7_loaves_20 ?_
  refine q_icmp_ge g (14) 35 r_l2 r_l3 (by decide) dX7_loaves_21 (fun b21 => ?_) (fun b21 => ?_)
  · replace h := h.1 b21
    refine q_lv (lv' := []) [] rfl ?_
    exact s_X7_loaves_35 g hR hX7 aX7_above aX7_below hX3 hX2 hX1 hX6 hX0 hX5 aX3_shares Q hF r_shares r_size r_r_shares r_r_size h
  replace h := h.2 b21
  refine q_iload g 4 4 rfl dX7_loaves_24 ?_
  refine q_if_lt g (9) 35 r_l4 (by decide) dX7_loaves_26 (fun b26 => ?_) (fun b26 => ?_)
  · replace h := h.1 b26
    refine q_lv (lv' := []) [] rfl ?_
    exact s_X7_loaves_35 g hR hX7 aX7_above aX7_below hX3 hX2 hX1 hX6 hX0 hX5 aX3_shares Q hF r_shares r_size r_r_shares r_r_size h
  replace h := h.2 b26
  refine q_iload g 4 4 rfl dX7_loaves_29 ?_
  refine q_iconst g (2) dX7_loaves_31 ?_
  refine q_icmp_le g (7) 39 r_l4 (r32_lit _ (by decide)) (by decide) dX7_loaves_32 (fun b32 => ?_) (fun b32 => ?_)
  · replace h := h.1 b32
    refine q_iload_n g 2 2 rfl dX7_loaves_39 ?_
    refine q_i2l g r_l2 dX7_loaves_40 ?_
    refine q_iload_n g 3 3 rfl dX7_loaves_41 ?_
    refine q_i2l g r_l3 dX7_loaves_42 ?_
    refine q_callS (lev := 2) (mc := 0) (ms := 0) (As := [.long (i64 l2), .long (i64 l3)]) g 176 (c_X7_commonDivisor X.l X.D X.cI X.cJ X.zt l2 l3 _ (r32_64 r_l2) (r32_64 r_l3) h) (wr := [(hX7, .inr (6, [.ref aX7_above, .ref aX7_below, .ref hX3, .ref hX2, .ref hX1, .ref hX6, .ref hX0, .ref hX5])), (hX3, .inr (3, [.ref aX3_shares, .int (i32 r_size)])), (aX3_shares, aL X.cJ 16 r_shares)]) [] [0, 1, 2] rfl rfl rfl (by decide) (by decide) (by decide) wM_X7_176 wT_X7_commonDivisor wZ_X7 wC_X7_commonDivisor 2 rfl (by decide +kernel) (by rw [hR]; exact ⟨by show 2 + 1 ≤ 7; omega, by show 8 + (11 + 11) + 100 * 2 ≤ 100 * 7; omega⟩) (by rw [hR]; exact ⟨Nat.le_refl _, Nat.le_refl _⟩) (Nat.le_of_ble_eq_true rfl) rfl dX7_loaves_43 (fun rv w1 hq => ?_)
    obtain ⟨x43, rfl, rfl, rx43, h⟩ := hq
    show Wat X 0 0 46 [(0, .ref hX7), (1, .int (i32 l1)), (2, .int (i32 l2)), (3, .int (i32 l3)), (4, .int (i32 l4))] [.long (i64 x43)] [(hX7, .inr (6, [.ref aX7_above, .ref aX7_below, .ref hX3, .ref hX2, .ref hX1, .ref hX6, .ref hX0, .ref hX5])), (hX3, .inr (3, [.ref aX3_shares, .int (i32 r_size)])), (aX3_shares, aL X.cJ 16 r_shares)]
    obtain ⟨c46, h⟩ := h
    refine q_l2i g dX7_loaves_46 ?_
    refine q_istore (lv' := [(5, .int (i32 x43)), (0, .ref hX7), (1, .int (i32 l1)), (2, .int (i32 l2)), (3, .int (i32 l3)), (4, .int (i32 l4))]) g 5   (by decide) rfl dX7_loaves_47 ?_
    refine q_aload_n g 0 1 rfl dX7_loaves_49 ?_
    refine q_iload_n g 1 2 rfl dX7_loaves_50 ?_
    refine q_iload_n g 2 3 rfl dX7_loaves_51 ?_
    refine q_iload g 5 0 rfl dX7_loaves_52 ?_
    obtain ⟨c54, h⟩ := h
    refine q_idiv g r_l2 c46 (ne_of_pos c54) dX7_loaves_54 ?_
    refine q_iload_n g 3 4 rfl dX7_loaves_55 ?_
    refine q_iload g 5 0 rfl dX7_loaves_56 ?_
    obtain ⟨c58, h⟩ := h
    refine q_idiv g r_l3 c46 (ne_of_pos c58) dX7_loaves_58 ?_
    refine q_callV (lev := 6) (mc := 0) (ms := 0) g 79 (c_X7_follow X.l X.D X.cI X.cJ X.zt hX7 aX7_above aX7_below hX3 hX2 hX1 hX6 hX0 hX5 aX3_shares r_size r_shares l1 (l2.tdiv x43) (l3.tdiv x43) _ r_r_shares r_r_size r_l1 (r32_tdiv r_l2 c54) (r32_tdiv r_l3 c58) h) (wr := []) [0, 1, 2] [] rfl rfl rfl (by decide) (by decide) (by decide) (ci := 6) rfl rfl rfl wM_X7_79 wI_X7_follow wS_X7_follow wZ_X7 wC_X7_follow 3 rfl (by decide +kernel) (by rw [hR]; exact ⟨by show 6 + 1 ≤ 7; omega, by show 8 + (4 + 11) + 100 * 6 ≤ 100 * 7; omega⟩) (by rw [hR]; exact ⟨Nat.le_refl _, Nat.le_refl _⟩) (Nat.le_of_ble_eq_true rfl) rfl dX7_loaves_59 (fun rv w1 hq => ?_)
    obtain ⟨x59, r_shares_59, r_size_59, rfl, rfl, rx59, rr_shares_59, rr_size_59, h⟩ := hq
    show Wat X 0 0 62 [(5, .int (i32 x43)), (0, .ref hX7), (1, .int (i32 l1)), (2, .int (i32 l2)), (3, .int (i32 l3)), (4, .int (i32 l4))] [.int (i32 x59)] [(hX7, .inr (6, [.ref aX7_above, .ref aX7_below, .ref hX3, .ref hX2, .ref hX1, .ref hX6, .ref hX0, .ref hX5])), (hX3, .inr (3, [.ref aX3_shares, .int (i32 r_size_59)])), (aX3_shares, aL X.cJ 16 r_shares_59)]
    refine q_istore (lv' := [(6, .int (i32 x59)), (5, .int (i32 x43)), (0, .ref hX7), (1, .int (i32 l1)), (2, .int (i32 l2)), (3, .int (i32 l3)), (4, .int (i32 l4))]) g 6   (by decide) rfl dX7_loaves_62 ?_
    refine q_iload g 6 0 rfl dX7_loaves_64 ?_
    refine q_if_ge g (7) 73 rx59 (by decide) dX7_loaves_66 (fun b66 => ?_) (fun b66 => ?_)
    · replace h := h.1 b66
      refine q_iload g 4 6 rfl dX7_loaves_73 ?_
      refine q_if_ne g (10) 85 r_l4 (by decide) dX7_loaves_75 (fun b75 => ?_) (fun b75 => ?_)
      · replace h := h.1 b75
        refine q_iload g 4 6 rfl dX7_loaves_85 ?_
        refine q_iconst g (1) dX7_loaves_87 ?_
        refine q_icmp_ne g (13) 101 r_l4 (r32_lit _ (by decide)) (by decide) dX7_loaves_88 (fun b88 => ?_) (fun b88 => ?_)
        · replace h := h.1 b88
          refine q_aload_n g 0 2 rfl dX7_loaves_101 ?_
          refine q_iload g 6 0 rfl dX7_loaves_102 ?_
          refine q_iload_n g 3 5 rfl dX7_loaves_104 ?_
          refine q_callV (lev := 2) (mc := 0) (ms := 0) g 187 (c_X7_piecesLeft X.l X.D X.cI X.cJ X.zt hX7 aX7_above aX7_below hX3 hX2 hX1 hX6 hX0 hX5 aX3_shares r_size_59 r_shares_59 x59 l3 _ rr_shares_59 rr_size_59 rx59 r_l3 h) (wr := []) [0, 1, 2] [] rfl rfl rfl (by decide) (by decide) (by decide) (ci := 6) rfl rfl rfl wM_X7_187 wI_X7_piecesLeft wS_X7_piecesLeft wZ_X7 wC_X7_piecesLeft 2 rfl (by decide +kernel) (by rw [hR]; exact ⟨by show 2 + 1 ≤ 7; omega, by show 8 + (8 + 11) + 100 * 2 ≤ 100 * 7; omega⟩) (by rw [hR]; exact ⟨Nat.le_refl _, Nat.le_refl _⟩) (Nat.le_of_ble_eq_true rfl) rfl dX7_loaves_105 (fun rv w1 hq => ?_)
          obtain ⟨x105, rfl, rfl, rx105, h⟩ := hq
          show Wat X 0 0 108 [(6, .int (i32 x59)), (5, .int (i32 x43)), (0, .ref hX7), (1, .int (i32 l1)), (2, .int (i32 l2)), (3, .int (i32 l3)), (4, .int (i32 l4))] [.long (i64 x105)] [(hX7, .inr (6, [.ref aX7_above, .ref aX7_below, .ref hX3, .ref hX2, .ref hX1, .ref hX6, .ref hX0, .ref hX5])), (hX3, .inr (3, [.ref aX3_shares, .int (i32 r_size_59)])), (aX3_shares, aL X.cJ 16 r_shares_59)]
          refine q_lv (lv' := []) [] rfl ?_
          exact s_X7_loaves_108 g hR hX7 aX7_above aX7_below hX3 hX2 hX1 hX6 hX0 hX5 aX3_shares Q hF r_shares_59 r_size_59 x105 rr_shares_59 rr_size_59 rx105 h
        replace h := h.2 b88
        refine q_aload_n g 0 2 rfl dX7_loaves_91 ?_
        refine q_iload g 6 0 rfl dX7_loaves_92 ?_
        refine q_iload_n g 3 5 rfl dX7_loaves_94 ?_
        refine q_callV (lev := 2) (mc := 0) (ms := 0) g 184 (c_X7_wholeLoaves X.l X.D X.cI X.cJ X.zt hX7 aX7_above aX7_below hX3 hX2 hX1 hX6 hX0 hX5 aX3_shares r_size_59 r_shares_59 x59 l3 _ rr_shares_59 rr_size_59 rx59 r_l3 h) (wr := []) [0, 1, 2] [] rfl rfl rfl (by decide) (by decide) (by decide) (ci := 6) rfl rfl rfl wM_X7_184 wI_X7_wholeLoaves wS_X7_wholeLoaves wZ_X7 wC_X7_wholeLoaves 2 rfl (by decide +kernel) (by rw [hR]; exact ⟨by show 2 + 1 ≤ 7; omega, by show 8 + (6 + 11) + 100 * 2 ≤ 100 * 7; omega⟩) (by rw [hR]; exact ⟨Nat.le_refl _, Nat.le_refl _⟩) (Nat.le_of_ble_eq_true rfl) rfl dX7_loaves_95 (fun rv w1 hq => ?_)
        obtain ⟨x95, rfl, rfl, rx95, h⟩ := hq
        show Wat X 0 0 98 [(6, .int (i32 x59)), (5, .int (i32 x43)), (0, .ref hX7), (1, .int (i32 l1)), (2, .int (i32 l2)), (3, .int (i32 l3)), (4, .int (i32 l4))] [.long (i64 x95)] [(hX7, .inr (6, [.ref aX7_above, .ref aX7_below, .ref hX3, .ref hX2, .ref hX1, .ref hX6, .ref hX0, .ref hX5])), (hX3, .inr (3, [.ref aX3_shares, .int (i32 r_size_59)])), (aX3_shares, aL X.cJ 16 r_shares_59)]
        refine q_goto g (10) 108 (by decide) dX7_loaves_98 ?_
        refine q_lv (lv' := []) [] rfl ?_
        exact s_X7_loaves_108 g hR hX7 aX7_above aX7_below hX3 hX2 hX1 hX6 hX0 hX5 aX3_shares Q hF r_shares_59 r_size_59 x95 rr_shares_59 rr_size_59 rx95 h
      replace h := h.2 b75
      refine q_iload g 6 0 rfl dX7_loaves_78 ?_
      refine q_i2l g rx59 dX7_loaves_80 ?_
      refine q_iload_n g 3 5 rfl dX7_loaves_81 ?_
      refine q_i2l g r_l3 dX7_loaves_82 ?_
      obtain ⟨c83, h⟩ := h
      refine q_lmul g dX7_loaves_83 ?_
      exact q_lret g hF ⟨(x59 * l3), r_shares_59, r_size_59, rfl, rfl, c83, rr_shares_59, rr_size_59, h⟩ dX7_loaves_84
    replace h := h.2 b66
    refine q_iload g 6 0 rfl dX7_loaves_69 ?_
    refine q_i2l g rx59 dX7_loaves_71 ?_
    exact q_lret g hF ⟨x59, r_shares_59, r_size_59, rfl, rfl, (r32_64 rx59), rr_shares_59, rr_size_59, h⟩ dX7_loaves_72
  replace h := h.2 b32
  refine q_lv (lv' := []) [] rfl ?_
  exact s_X7_loaves_35 g hR hX7 aX7_above aX7_below hX3 hX2 hX1 hX6 hX0 hX5 aX3_shares Q hF r_shares r_size r_r_shares r_r_size h
theorem dX7_multiple_0 : decode cX7_multiple 0 = .ok (.iload_n 1, 1) := by decide +kernel
theorem dX7_multiple_1 : decode cX7_multiple 1 = .ok (.invokestatic 64, 3) := by decide +kernel
theorem dX7_multiple_4 : decode cX7_multiple 4 = .ok (.ifCond .ne 5, 3) := by decide +kernel
theorem dX7_multiple_7 : decode cX7_multiple 7 = .ok (.iconst (-1), 1) := by decide +kernel
theorem dX7_multiple_8 : decode cX7_multiple 8 = .ok (.ireturn, 1) := by decide +kernel
theorem dX7_multiple_9 : decode cX7_multiple 9 = .ok (.aload_n 0, 1) := by decide +kernel
theorem dX7_multiple_10 : decode cX7_multiple 10 = .ok (.iload_n 1, 1) := by decide +kernel
theorem dX7_multiple_11 : decode cX7_multiple 11 = .ok (.invokevirtual 91, 3) := by decide +kernel
theorem dX7_multiple_14 : decode cX7_multiple 14 = .ok (.ifCond .eq 25, 3) := by decide +kernel
theorem dX7_multiple_17 : decode cX7_multiple 17 = .ok (.aload_n 0, 1) := by decide +kernel
theorem dX7_multiple_18 : decode cX7_multiple 18 = .ok (.getfield 47, 3) := by decide +kernel
theorem dX7_multiple_21 : decode cX7_multiple 21 = .ok (.aload_n 0, 1) := by decide +kernel
theorem dX7_multiple_22 : decode cX7_multiple 22 = .ok (.getfield 9, 3) := by decide +kernel
theorem dX7_multiple_25 : decode cX7_multiple 25 = .ok (.iload_n 1, 1) := by decide +kernel
theorem dX7_multiple_26 : decode cX7_multiple 26 = .ok (.iaload, 1) := by decide +kernel
theorem dX7_multiple_27 : decode cX7_multiple 27 = .ok (.aload_n 0, 1) := by decide +kernel
theorem dX7_multiple_28 : decode cX7_multiple 28 = .ok (.getfield 13, 3) := by decide +kernel
theorem dX7_multiple_31 : decode cX7_multiple 31 = .ok (.iload_n 1, 1) := by decide +kernel
theorem dX7_multiple_32 : decode cX7_multiple 32 = .ok (.iaload, 1) := by decide +kernel
theorem dX7_multiple_33 : decode cX7_multiple 33 = .ok (.invokevirtual 149, 3) := by decide +kernel
theorem dX7_multiple_36 : decode cX7_multiple 36 = .ok (.goto 5, 3) := by decide +kernel
theorem dX7_multiple_39 : decode cX7_multiple 39 = .ok (.bipush (-2), 2) := by decide +kernel
theorem dX7_multiple_41 : decode cX7_multiple 41 = .ok (.ireturn, 1) := by decide +kernel
abbrev po_X7_multiple (cI cJ : ClassId) (hX7 : Nat) (aX7_above : Nat) (aX7_below : Nat) (hX3 : Nat) (hX2 : Nat) (hX1 : Nat) (hX6 : Nat) (hX0 : Nat) (hX5 : Nat) (aX0_divisors : Nat) (aX0_reachable : Nat) (aX0_fewest : Nat) (aX0_takes : Nat) (aX0_chosen : Nat) (s_above : Int → Int) (s_below : Int → Int) (Q : Int → (Int → Int) → (Int → Int) → (Int → Int) → (Int → Int) → (Int → Int) → Int → Int → Int → Int → Int → Prop) : Option Value → va_W → Prop := fun rv w1 => ∃ (r0 : Int) (d_divisors : Int → Int) (d_reachable : Int → Int) (d_fewest : Int → Int) (d_takes : Int → Int) (d_chosen : Int → Int) (d_divisorsSize : Int) (d_size : Int) (d_askedP : Int) (d_askedQ : Int) (d_factor : Int), rv = some (.int (i32 r0)) ∧ w1 = [(hX7, .inr (6, [.ref aX7_above, .ref aX7_below, .ref hX3, .ref hX2, .ref hX1, .ref hX6, .ref hX0, .ref hX5])), (hX0, .inr (0, [.ref aX0_divisors, .ref aX0_reachable, .ref aX0_fewest, .ref aX0_takes, .ref aX0_chosen, .int (i32 d_divisorsSize), .int (i32 d_size), .int (i32 d_askedP), .int (i32 d_askedQ), .int (i32 d_factor)])), (aX7_above, aI cI 8 s_above), (aX7_below, aI cI 8 s_below), (aX0_divisors, aI cI 48 d_divisors), (aX0_reachable, aL cJ 79 d_reachable), (aX0_fewest, aI cI 5001 d_fewest), (aX0_takes, aL cJ 5001 d_takes), (aX0_chosen, aI cI 48 d_chosen)] ∧ r32 r0 ∧ rr32 d_divisors ∧ rr64 d_reachable ∧ rr32 d_fewest ∧ rr64 d_takes ∧ rr32 d_chosen ∧ r32 d_divisorsSize ∧ r32 d_size ∧ r32 d_askedP ∧ r32 d_askedQ ∧ r32 d_factor ∧ Q r0 d_divisors d_reachable d_fewest d_takes d_chosen d_divisorsSize d_size d_askedP d_askedQ d_factor
def wp_X7_multiple_41 (Q : Int → (Int → Int) → (Int → Int) → (Int → Int) → (Int → Int) → (Int → Int) → Int → Int → Int → Int → Int → Prop) (s_above : Int → Int) (s_below : Int → Int) (d_divisors : Int → Int) (d_reachable : Int → Int) (d_fewest : Int → Int) (d_takes : Int → Int) (d_chosen : Int → Int) (d_divisorsSize : Int) (d_size : Int) (d_askedP : Int) (d_askedQ : Int) (d_factor : Int) (k0 : Int) : Prop := Q k0 d_divisors d_reachable d_fewest d_takes d_chosen d_divisorsSize d_size d_askedP d_askedQ d_factor
set_option maxHeartbeats 4000000 in
set_option maxRecDepth 100000 in
theorem s_X7_multiple_41 {X : Cx} (g : Gd X cX7_multiple RX7 (some .int) 2) (hR : X.R = rmL 5 0 0) (hX7 : Nat) (aX7_above : Nat) (aX7_below : Nat) (hX3 : Nat) (hX2 : Nat) (hX1 : Nat) (hX6 : Nat) (hX0 : Nat) (hX5 : Nat) (aX0_divisors : Nat) (aX0_reachable : Nat) (aX0_fewest : Nat) (aX0_takes : Nat) (aX0_chosen : Nat) (s_above : Int → Int) (s_below : Int → Int) (r_s_above : rr32 s_above) (r_s_below : rr32 s_below) (Q : Int → (Int → Int) → (Int → Int) → (Int → Int) → (Int → Int) → (Int → Int) → Int → Int → Int → Int → Int → Prop) (hF : FQ X 0 0 (po_X7_multiple X.cI X.cJ hX7 aX7_above aX7_below hX3 hX2 hX1 hX6 hX0 hX5 aX0_divisors aX0_reachable aX0_fewest aX0_takes aX0_chosen s_above s_below Q)) : ∀ (d_divisors : Int → Int) (d_reachable : Int → Int) (d_fewest : Int → Int) (d_takes : Int → Int) (d_chosen : Int → Int) (d_divisorsSize : Int) (d_size : Int) (d_askedP : Int) (d_askedQ : Int) (d_factor : Int) (k0 : Int), rr32 d_divisors → rr64 d_reachable → rr32 d_fewest → rr64 d_takes → rr32 d_chosen → r32 d_divisorsSize → r32 d_size → r32 d_askedP → r32 d_askedQ → r32 d_factor → r32 k0 → wp_X7_multiple_41 Q s_above s_below d_divisors d_reachable d_fewest d_takes d_chosen d_divisorsSize d_size d_askedP d_askedQ d_factor k0 → Wat X 0 0 41 [] [.int (i32 k0)] [(hX7, .inr (6, [.ref aX7_above, .ref aX7_below, .ref hX3, .ref hX2, .ref hX1, .ref hX6, .ref hX0, .ref hX5])), (hX0, .inr (0, [.ref aX0_divisors, .ref aX0_reachable, .ref aX0_fewest, .ref aX0_takes, .ref aX0_chosen, .int (i32 d_divisorsSize), .int (i32 d_size), .int (i32 d_askedP), .int (i32 d_askedQ), .int (i32 d_factor)])), (aX7_above, aI X.cI 8 s_above), (aX7_below, aI X.cI 8 s_below), (aX0_divisors, aI X.cI 48 d_divisors), (aX0_reachable, aL X.cJ 79 d_reachable), (aX0_fewest, aI X.cI 5001 d_fewest), (aX0_takes, aL X.cJ 5001 d_takes), (aX0_chosen, aI X.cI 48 d_chosen)] := by
  intro d_divisors d_reachable d_fewest d_takes d_chosen d_divisorsSize d_size d_askedP d_askedQ d_factor k0 r_d_divisors r_d_reachable r_d_fewest r_d_takes r_d_chosen r_d_divisorsSize r_d_size r_d_askedP r_d_askedQ r_d_factor r_k0 h
  rw [wp_X7_multiple_41] at h
  exact q_iret g hF ⟨k0, d_divisors, d_reachable, d_fewest, d_takes, d_chosen, d_divisorsSize, d_size, d_askedP, d_askedQ, d_factor, rfl, rfl, r_k0, r_d_divisors, r_d_reachable, r_d_fewest, r_d_takes, r_d_chosen, r_d_divisorsSize, r_d_size, r_d_askedP, r_d_askedQ, r_d_factor, h⟩ dX7_multiple_41
def wp_X7_multiple (Q : Int → (Int → Int) → (Int → Int) → (Int → Int) → (Int → Int) → (Int → Int) → Int → Int → Int → Int → Int → Prop) (s_above : Int → Int) (s_below : Int → Int) (d_divisors : Int → Int) (d_reachable : Int → Int) (d_fewest : Int → Int) (d_takes : Int → Int) (d_chosen : Int → Int) (d_divisorsSize : Int) (d_size : Int) (d_askedP : Int) (d_askedQ : Int) (d_factor : Int) (l1 : Int) : Prop := wp_X7_isRegister (fun (x1 : Int) => ((¬ x1 = 0 → wp_X7_isProper (fun (x11 : Int) => ((x11 = 0 → wp_X7_multiple_41 Q s_above s_below d_divisors d_reachable d_fewest d_takes d_chosen d_divisorsSize d_size d_askedP d_askedQ d_factor (-2)) ∧
  (¬ (x11 = 0) → (0 ≤ l1 ∧ l1 < 8 ∧ 0 ≤ l1 ∧ l1 < 8 ∧ wp_X0_factorFor (fun (x33 : Int) (d_divisors_33 : Int → Int) (d_reachable_33 : Int → Int) (d_fewest_33 : Int → Int) (d_takes_33 : Int → Int) (d_chosen_33 : Int → Int) (d_divisorsSize_33 : Int) (d_size_33 : Int) (d_askedP_33 : Int) (d_askedQ_33 : Int) (d_factor_33 : Int) => wp_X7_multiple_41 Q s_above s_below d_divisors_33 d_reachable_33 d_fewest_33 d_takes_33 d_chosen_33 d_divisorsSize_33 d_size_33 d_askedP_33 d_askedQ_33 d_factor_33 x33) d_divisors d_reachable d_fewest d_takes d_chosen d_divisorsSize d_size d_askedP d_askedQ d_factor (s_above l1) (s_below l1))))) s_above s_below l1) ∧
  (x1 = 0 → Q (-1) d_divisors d_reachable d_fewest d_takes d_chosen d_divisorsSize d_size d_askedP d_askedQ d_factor))) l1
set_option maxHeartbeats 4000000 in
set_option maxRecDepth 100000 in
theorem c_X7_multiple (l : Launch) (D : va_G) (cI cJ : ClassId) (zt : Nat) (hX7 : Nat) (aX7_above : Nat) (aX7_below : Nat) (hX3 : Nat) (hX2 : Nat) (hX1 : Nat) (hX6 : Nat) (hX0 : Nat) (hX5 : Nat) (aX0_divisors : Nat) (aX0_reachable : Nat) (aX0_fewest : Nat) (aX0_takes : Nat) (aX0_chosen : Nat) (d_divisorsSize : Int) (d_size : Int) (d_askedP : Int) (d_askedQ : Int) (d_factor : Int) (s_above : Int → Int) (s_below : Int → Int) (d_divisors : Int → Int) (d_reachable : Int → Int) (d_fewest : Int → Int) (d_takes : Int → Int) (d_chosen : Int → Int) (l1 : Int) (Q : Int → (Int → Int) → (Int → Int) → (Int → Int) → (Int → Int) → (Int → Int) → Int → Int → Int → Int → Int → Prop) (r_s_above : rr32 s_above) (r_s_below : rr32 s_below) (r_d_divisors : rr32 d_divisors) (r_d_reachable : rr64 d_reachable) (r_d_fewest : rr32 d_fewest) (r_d_takes : rr64 d_takes) (r_d_chosen : rr32 d_chosen) (r_d_divisorsSize : r32 d_divisorsSize) (r_d_size : r32 d_size) (r_d_askedP : r32 d_askedP) (r_d_askedQ : r32 d_askedQ) (r_d_factor : r32 d_factor) (r_l1 : r32 l1) (h : wp_X7_multiple Q s_above s_below d_divisors d_reachable d_fewest d_takes d_chosen d_divisorsSize d_size d_askedP d_askedQ d_factor l1) : Ct l D cI cJ zt yX7_multiple cX7_multiple 2 (some .int) 5 0 0 [.ref hX7, .int (i32 l1)] [(hX7, .inr (6, [.ref aX7_above, .ref aX7_below, .ref hX3, .ref hX2, .ref hX1, .ref hX6, .ref hX0, .ref hX5])), (hX0, .inr (0, [.ref aX0_divisors, .ref aX0_reachable, .ref aX0_fewest, .ref aX0_takes, .ref aX0_chosen, .int (i32 d_divisorsSize), .int (i32 d_size), .int (i32 d_askedP), .int (i32 d_askedQ), .int (i32 d_factor)])), (aX7_above, aI cI 8 s_above), (aX7_below, aI cI 8 s_below), (aX0_divisors, aI cI 48 d_divisors), (aX0_reachable, aL cJ 79 d_reachable), (aX0_fewest, aI cI 5001 d_fewest), (aX0_takes, aL cJ 5001 d_takes), (aX0_chosen, aI cI 48 d_chosen)] (po_X7_multiple cI cJ hX7 aX7_above aX7_below hX3 hX2 hX1 hX6 hX0 hX5 aX0_divisors aX0_reachable aX0_fewest aX0_takes aX0_chosen s_above s_below Q) := by
  refine ct_of (by decide +kernel) (Nat.le_of_ble_eq_true rfl) (fun X hl hDD hcI hcJ hzt hR hF hnm g => ?_)
  subst hl; subst hDD; subst hcI; subst hcJ; subst hzt
  show Wat X 0 0 0 [(0, .ref hX7), (1, .int (i32 l1))] [] [(hX7, .inr (6, [.ref aX7_above, .ref aX7_below, .ref hX3, .ref hX2, .ref hX1, .ref hX6, .ref hX0, .ref hX5])), (hX0, .inr (0, [.ref aX0_divisors, .ref aX0_reachable, .ref aX0_fewest, .ref aX0_takes, .ref aX0_chosen, .int (i32 d_divisorsSize), .int (i32 d_size), .int (i32 d_askedP), .int (i32 d_askedQ), .int (i32 d_factor)])), (aX7_above, aI X.cI 8 s_above), (aX7_below, aI X.cI 8 s_below), (aX0_divisors, aI X.cI 48 d_divisors), (aX0_reachable, aL X.cJ 79 d_reachable), (aX0_fewest, aI X.cI 5001 d_fewest), (aX0_takes, aL X.cJ 5001 d_takes), (aX0_chosen, aI X.cI 48 d_chosen)]
  replace g : Gd X cX7_multiple RX7 (some .int) 2 := g
  rw [wp_X7_multiple] at h
  refine q_iload_n g 1 1 rfl dX7_multiple_0 ?_
  refine q_callS (lev := 1) (mc := 0) (ms := 0) (As := [.int (i32 l1)]) g 64 (c_X7_isRegister X.l X.D X.cI X.cJ X.zt l1 _ r_l1 h) (wr := [(hX7, .inr (6, [.ref aX7_above, .ref aX7_below, .ref hX3, .ref hX2, .ref hX1, .ref hX6, .ref hX0, .ref hX5])), (hX0, .inr (0, [.ref aX0_divisors, .ref aX0_reachable, .ref aX0_fewest, .ref aX0_takes, .ref aX0_chosen, .int (i32 d_divisorsSize), .int (i32 d_size), .int (i32 d_askedP), .int (i32 d_askedQ), .int (i32 d_factor)])), (aX7_above, aI X.cI 8 s_above), (aX7_below, aI X.cI 8 s_below), (aX0_divisors, aI X.cI 48 d_divisors), (aX0_reachable, aL X.cJ 79 d_reachable), (aX0_fewest, aI X.cI 5001 d_fewest), (aX0_takes, aL X.cJ 5001 d_takes), (aX0_chosen, aI X.cI 48 d_chosen)]) [] [0, 1, 2, 3, 4, 5, 6, 7, 8] rfl rfl rfl (by decide) (by decide) (by decide) wM_X7_64 wT_X7_isRegister wZ_X7 wC_X7_isRegister 1 rfl (by decide +kernel) (by rw [hR]; exact ⟨by show 1 + 1 ≤ 5; omega, by show 8 + (1 + 11) + 100 * 1 ≤ 100 * 5; omega⟩) (by rw [hR]; exact ⟨Nat.le_refl _, Nat.le_refl _⟩) (Nat.le_of_ble_eq_true rfl) rfl dX7_multiple_1 (fun rv w1 hq => ?_)
  obtain ⟨x1, rfl, rfl, rx1, h⟩ := hq
  show Wat X 0 0 4 [(0, .ref hX7), (1, .int (i32 l1))] [.int (i32 x1)] [(hX7, .inr (6, [.ref aX7_above, .ref aX7_below, .ref hX3, .ref hX2, .ref hX1, .ref hX6, .ref hX0, .ref hX5])), (hX0, .inr (0, [.ref aX0_divisors, .ref aX0_reachable, .ref aX0_fewest, .ref aX0_takes, .ref aX0_chosen, .int (i32 d_divisorsSize), .int (i32 d_size), .int (i32 d_askedP), .int (i32 d_askedQ), .int (i32 d_factor)])), (aX7_above, aI X.cI 8 s_above), (aX7_below, aI X.cI 8 s_below), (aX0_divisors, aI X.cI 48 d_divisors), (aX0_reachable, aL X.cJ 79 d_reachable), (aX0_fewest, aI X.cI 5001 d_fewest), (aX0_takes, aL X.cJ 5001 d_takes), (aX0_chosen, aI X.cI 48 d_chosen)]
  refine q_if_ne g (5) 9 rx1 (by decide) dX7_multiple_4 (fun b4 => ?_) (fun b4 => ?_)
  · replace h := h.1 b4
    refine q_aload_n g 0 0 rfl dX7_multiple_9 ?_
    refine q_iload_n g 1 1 rfl dX7_multiple_10 ?_
    refine q_callV (lev := 2) (mc := 0) (ms := 0) g 91 (c_X7_isProper X.l X.D X.cI X.cJ X.zt hX7 aX7_above aX7_below hX3 hX2 hX1 hX6 hX0 hX5 s_above s_below l1 _ r_s_above r_s_below r_l1 h) (wr := [(hX0, .inr (0, [.ref aX0_divisors, .ref aX0_reachable, .ref aX0_fewest, .ref aX0_takes, .ref aX0_chosen, .int (i32 d_divisorsSize), .int (i32 d_size), .int (i32 d_askedP), .int (i32 d_askedQ), .int (i32 d_factor)])), (aX0_divisors, aI X.cI 48 d_divisors), (aX0_reachable, aL X.cJ 79 d_reachable), (aX0_fewest, aI X.cI 5001 d_fewest), (aX0_takes, aL X.cJ 5001 d_takes), (aX0_chosen, aI X.cI 48 d_chosen)]) [0, 2, 3] [1, 4, 5, 6, 7, 8] rfl rfl rfl (by decide) (by decide) (by decide) (ci := 6) rfl rfl rfl wM_X7_91 wI_X7_isProper wS_X7_isProper wZ_X7 wC_X7_isProper 1 rfl (by decide +kernel) (by rw [hR]; exact ⟨by show 2 + 1 ≤ 5; omega, by show 8 + (2 + 11) + 100 * 2 ≤ 100 * 5; omega⟩) (by rw [hR]; exact ⟨Nat.le_refl _, Nat.le_refl _⟩) (Nat.le_of_ble_eq_true rfl) rfl dX7_multiple_11 (fun rv w1 hq => ?_)
    obtain ⟨x11, rfl, rfl, rx11, h⟩ := hq
    refine q_ws (ws' := [(hX7, .inr (6, [.ref aX7_above, .ref aX7_below, .ref hX3, .ref hX2, .ref hX1, .ref hX6, .ref hX0, .ref hX5])), (hX0, .inr (0, [.ref aX0_divisors, .ref aX0_reachable, .ref aX0_fewest, .ref aX0_takes, .ref aX0_chosen, .int (i32 d_divisorsSize), .int (i32 d_size), .int (i32 d_askedP), .int (i32 d_askedQ), .int (i32 d_factor)])), (aX7_above, aI X.cI 8 s_above), (aX7_below, aI X.cI 8 s_below), (aX0_divisors, aI X.cI 48 d_divisors), (aX0_reachable, aL X.cJ 79 d_reachable), (aX0_fewest, aI X.cI 5001 d_fewest), (aX0_takes, aL X.cJ 5001 d_takes), (aX0_chosen, aI X.cI 48 d_chosen)]) [6, 0, 7, 8, 1, 2, 3, 4, 5] (by decide) rfl rfl ?_
    show Wat X 0 0 14 [(0, .ref hX7), (1, .int (i32 l1))] [.int (i32 x11)] [(hX7, .inr (6, [.ref aX7_above, .ref aX7_below, .ref hX3, .ref hX2, .ref hX1, .ref hX6, .ref hX0, .ref hX5])), (hX0, .inr (0, [.ref aX0_divisors, .ref aX0_reachable, .ref aX0_fewest, .ref aX0_takes, .ref aX0_chosen, .int (i32 d_divisorsSize), .int (i32 d_size), .int (i32 d_askedP), .int (i32 d_askedQ), .int (i32 d_factor)])), (aX7_above, aI X.cI 8 s_above), (aX7_below, aI X.cI 8 s_below), (aX0_divisors, aI X.cI 48 d_divisors), (aX0_reachable, aL X.cJ 79 d_reachable), (aX0_fewest, aI X.cI 5001 d_fewest), (aX0_takes, aL X.cJ 5001 d_takes), (aX0_chosen, aI X.cI 48 d_chosen)]
    refine q_if_eq g (25) 39 rx11 (by decide) dX7_multiple_14 (fun b14 => ?_) (fun b14 => ?_)
    · replace h := h.1 b14
      refine q_bipush g (-2) (by decide) (by decide) dX7_multiple_39 ?_
      refine q_lv (lv' := []) [] rfl ?_
      exact s_X7_multiple_41 g hR hX7 aX7_above aX7_below hX3 hX2 hX1 hX6 hX0 hX5 aX0_divisors aX0_reachable aX0_fewest aX0_takes aX0_chosen s_above s_below r_s_above r_s_below Q hF d_divisors d_reachable d_fewest d_takes d_chosen d_divisorsSize d_size d_askedP d_askedQ d_factor (-2) r_d_divisors r_d_reachable r_d_fewest r_d_takes r_d_chosen r_d_divisorsSize r_d_size r_d_askedP r_d_askedQ r_d_factor (r32_lit _ (by decide)) h
    replace h := h.2 b14
    refine q_aload_n g 0 0 rfl dX7_multiple_17 ?_
    refine q_get (C := RX7) (T := TX7) (N := 8) g 47 inX7 0 6 rfl rfl (by decide) wF_X7_47 rfl dX7_multiple_18 ?_
    refine q_aload_n g 0 0 rfl dX7_multiple_21 ?_
    refine q_get (C := RX7) (T := TX7) (N := 8) g 9 inX7 0 0 rfl rfl (by decide) wF_X7_9 rfl dX7_multiple_22 ?_
    refine q_iload_n g 1 1 rfl dX7_multiple_25 ?_
    obtain ⟨c26, h⟩ := h
    obtain ⟨e26, h⟩ := h
    refine q_iald g 2 rfl c26 e26 (by decide) dX7_multiple_26 ?_
    refine q_aload_n g 0 0 rfl dX7_multiple_27 ?_
    refine q_get (C := RX7) (T := TX7) (N := 8) g 13 inX7 0 1 rfl rfl (by decide) wF_X7_13 rfl dX7_multiple_28 ?_
    refine q_iload_n g 1 1 rfl dX7_multiple_31 ?_
    obtain ⟨c32, h⟩ := h
    obtain ⟨e32, h⟩ := h
    refine q_iald g 3 rfl c32 e32 (by decide) dX7_multiple_32 ?_
    refine q_callV (lev := 4) (mc := 0) (ms := 0) g 149 (c_X0_factorFor X.l X.D X.cI X.cJ X.zt hX0 aX0_divisors aX0_reachable aX0_fewest aX0_takes aX0_chosen d_divisorsSize d_size d_askedP d_askedQ d_factor d_divisors d_reachable d_fewest d_takes d_chosen (s_above l1) (s_below l1) _ r_d_divisors r_d_reachable r_d_fewest r_d_takes r_d_chosen r_d_divisorsSize r_d_size r_d_askedP r_d_askedQ r_d_factor (r_s_above _) (r_s_below _) h) (wr := [(hX7, .inr (6, [.ref aX7_above, .ref aX7_below, .ref hX3, .ref hX2, .ref hX1, .ref hX6, .ref hX0, .ref hX5])), (aX7_above, aI X.cI 8 s_above), (aX7_below, aI X.cI 8 s_below)]) [1, 4, 5, 6, 7, 8] [0, 2, 3] rfl rfl rfl (by decide) (by decide) (by decide) (ci := 0) rfl rfl rfl wM_X7_149 wI_X0_factorFor wS_X0_factorFor wZ_X0 wC_X0_factorFor 2 rfl (by decide +kernel) (by rw [hR]; exact ⟨by show 4 + 1 ≤ 5; omega, by show 8 + (3 + 11) + 100 * 4 ≤ 100 * 5; omega⟩) (by rw [hR]; exact ⟨Nat.le_refl _, Nat.le_refl _⟩) (Nat.le_of_ble_eq_true rfl) rfl dX7_multiple_33 (fun rv w1 hq => ?_)
    obtain ⟨x33, d_divisors_33, d_reachable_33, d_fewest_33, d_takes_33, d_chosen_33, d_divisorsSize_33, d_size_33, d_askedP_33, d_askedQ_33, d_factor_33, rfl, rfl, rx33, rd_divisors_33, rd_reachable_33, rd_fewest_33, rd_takes_33, rd_chosen_33, rd_divisorsSize_33, rd_size_33, rd_askedP_33, rd_askedQ_33, rd_factor_33, h⟩ := hq
    refine q_ws (ws' := [(hX7, .inr (6, [.ref aX7_above, .ref aX7_below, .ref hX3, .ref hX2, .ref hX1, .ref hX6, .ref hX0, .ref hX5])), (hX0, .inr (0, [.ref aX0_divisors, .ref aX0_reachable, .ref aX0_fewest, .ref aX0_takes, .ref aX0_chosen, .int (i32 d_divisorsSize_33), .int (i32 d_size_33), .int (i32 d_askedP_33), .int (i32 d_askedQ_33), .int (i32 d_factor_33)])), (aX7_above, aI X.cI 8 s_above), (aX7_below, aI X.cI 8 s_below), (aX0_divisors, aI X.cI 48 d_divisors_33), (aX0_reachable, aL X.cJ 79 d_reachable_33), (aX0_fewest, aI X.cI 5001 d_fewest_33), (aX0_takes, aL X.cJ 5001 d_takes_33), (aX0_chosen, aI X.cI 48 d_chosen_33)]) [0, 3, 1, 2, 4, 5, 6, 7, 8] (by decide) rfl rfl ?_
    show Wat X 0 0 36 [(0, .ref hX7), (1, .int (i32 l1))] [.int (i32 x33)] [(hX7, .inr (6, [.ref aX7_above, .ref aX7_below, .ref hX3, .ref hX2, .ref hX1, .ref hX6, .ref hX0, .ref hX5])), (hX0, .inr (0, [.ref aX0_divisors, .ref aX0_reachable, .ref aX0_fewest, .ref aX0_takes, .ref aX0_chosen, .int (i32 d_divisorsSize_33), .int (i32 d_size_33), .int (i32 d_askedP_33), .int (i32 d_askedQ_33), .int (i32 d_factor_33)])), (aX7_above, aI X.cI 8 s_above), (aX7_below, aI X.cI 8 s_below), (aX0_divisors, aI X.cI 48 d_divisors_33), (aX0_reachable, aL X.cJ 79 d_reachable_33), (aX0_fewest, aI X.cI 5001 d_fewest_33), (aX0_takes, aL X.cJ 5001 d_takes_33), (aX0_chosen, aI X.cI 48 d_chosen_33)]
    refine q_goto g (5) 41 (by decide) dX7_multiple_36 ?_
    refine q_lv (lv' := []) [] rfl ?_
    exact s_X7_multiple_41 g hR hX7 aX7_above aX7_below hX3 hX2 hX1 hX6 hX0 hX5 aX0_divisors aX0_reachable aX0_fewest aX0_takes aX0_chosen s_above s_below r_s_above r_s_below Q hF d_divisors_33 d_reachable_33 d_fewest_33 d_takes_33 d_chosen_33 d_divisorsSize_33 d_size_33 d_askedP_33 d_askedQ_33 d_factor_33 x33 rd_divisors_33 rd_reachable_33 rd_fewest_33 rd_takes_33 rd_chosen_33 rd_divisorsSize_33 rd_size_33 rd_askedP_33 rd_askedQ_33 rd_factor_33 rx33 h
  replace h := h.2 b4
  refine q_iconst g (-1) dX7_multiple_7 ?_
  exact q_iret g hF ⟨(-1), d_divisors, d_reachable, d_fewest, d_takes, d_chosen, d_divisorsSize, d_size, d_askedP, d_askedQ, d_factor, rfl, rfl, (r32_lit _ (by decide)), r_d_divisors, r_d_reachable, r_d_fewest, r_d_takes, r_d_chosen, r_d_divisorsSize, r_d_size, r_d_askedP, r_d_askedQ, r_d_factor, h⟩ dX7_multiple_8
theorem dX7_pair_0 : decode cX7_pair 0 = .ok (.iload_n 1, 1) := by decide +kernel
theorem dX7_pair_1 : decode cX7_pair 1 = .ok (.invokestatic 64, 3) := by decide +kernel
theorem dX7_pair_4 : decode cX7_pair 4 = .ok (.ifCond .eq 14, 3) := by decide +kernel
theorem dX7_pair_7 : decode cX7_pair 7 = .ok (.iload_n 2, 1) := by decide +kernel
theorem dX7_pair_8 : decode cX7_pair 8 = .ok (.ifCond .lt 10, 3) := by decide +kernel
theorem dX7_pair_11 : decode cX7_pair 11 = .ok (.iload_n 3, 1) := by decide +kernel
theorem dX7_pair_12 : decode cX7_pair 12 = .ok (.invokestatic 73, 3) := by decide +kernel
theorem dX7_pair_15 : decode cX7_pair 15 = .ok (.ifCond .ne 7, 3) := by decide +kernel
theorem dX7_pair_18 : decode cX7_pair 18 = .ok (.ldc2_w 83, 3) := by decide +kernel
theorem dX7_pair_21 : decode cX7_pair 21 = .ok (.lreturn, 1) := by decide +kernel
theorem dX7_pair_22 : decode cX7_pair 22 = .ok (.aload_n 0, 1) := by decide +kernel
theorem dX7_pair_23 : decode cX7_pair 23 = .ok (.iload_n 1, 1) := by decide +kernel
theorem dX7_pair_24 : decode cX7_pair 24 = .ok (.invokevirtual 91, 3) := by decide +kernel
theorem dX7_pair_27 : decode cX7_pair 27 = .ok (.ifCond .eq 15, 3) := by decide +kernel
theorem dX7_pair_30 : decode cX7_pair 30 = .ok (.aload_n 0, 1) := by decide +kernel
theorem dX7_pair_31 : decode cX7_pair 31 = .ok (.getfield 13, 3) := by decide +kernel
theorem dX7_pair_34 : decode cX7_pair 34 = .ok (.iload_n 1, 1) := by decide +kernel
theorem dX7_pair_35 : decode cX7_pair 35 = .ok (.iaload, 1) := by decide +kernel
theorem dX7_pair_36 : decode cX7_pair 36 = .ok (.sipush 5000, 3) := by decide +kernel
theorem dX7_pair_39 : decode cX7_pair 39 = .ok (.if_icmp .le 7, 3) := by decide +kernel
theorem dX7_pair_42 : decode cX7_pair 42 = .ok (.ldc2_w 161, 3) := by decide +kernel
theorem dX7_pair_45 : decode cX7_pair 45 = .ok (.lreturn, 1) := by decide +kernel
theorem dX7_pair_46 : decode cX7_pair 46 = .ok (.iload_n 2, 1) := by decide +kernel
theorem dX7_pair_47 : decode cX7_pair 47 = .ok (.aload_n 0, 1) := by decide +kernel
theorem dX7_pair_48 : decode cX7_pair 48 = .ok (.getfield 54, 3) := by decide +kernel
theorem dX7_pair_51 : decode cX7_pair 51 = .ok (.aload_n 0, 1) := by decide +kernel
theorem dX7_pair_52 : decode cX7_pair 52 = .ok (.getfield 9, 3) := by decide +kernel
theorem dX7_pair_55 : decode cX7_pair 55 = .ok (.iload_n 1, 1) := by decide +kernel
theorem dX7_pair_56 : decode cX7_pair 56 = .ok (.iaload, 1) := by decide +kernel
theorem dX7_pair_57 : decode cX7_pair 57 = .ok (.aload_n 0, 1) := by decide +kernel
theorem dX7_pair_58 : decode cX7_pair 58 = .ok (.getfield 13, 3) := by decide +kernel
theorem dX7_pair_61 : decode cX7_pair 61 = .ok (.iload_n 1, 1) := by decide +kernel
theorem dX7_pair_62 : decode cX7_pair 62 = .ok (.iaload, 1) := by decide +kernel
theorem dX7_pair_63 : decode cX7_pair 63 = .ok (.invokevirtual 158, 3) := by decide +kernel
theorem dX7_pair_66 : decode cX7_pair 66 = .ok (.if_icmp .lt 7, 3) := by decide +kernel
theorem dX7_pair_69 : decode cX7_pair 69 = .ok (.ldc2_w 89, 3) := by decide +kernel
theorem dX7_pair_72 : decode cX7_pair 72 = .ok (.lreturn, 1) := by decide +kernel
theorem dX7_pair_73 : decode cX7_pair 73 = .ok (.iload_n 3, 1) := by decide +kernel
theorem dX7_pair_74 : decode cX7_pair 74 = .ok (.ifCond .ne 14, 3) := by decide +kernel
theorem dX7_pair_77 : decode cX7_pair 77 = .ok (.aload_n 0, 1) := by decide +kernel
theorem dX7_pair_78 : decode cX7_pair 78 = .ok (.getfield 54, 3) := by decide +kernel
theorem dX7_pair_81 : decode cX7_pair 81 = .ok (.iload_n 2, 1) := by decide +kernel
theorem dX7_pair_82 : decode cX7_pair 82 = .ok (.invokevirtual 163, 3) := by decide +kernel
theorem dX7_pair_85 : decode cX7_pair 85 = .ok (.goto 11, 3) := by decide +kernel
theorem dX7_pair_88 : decode cX7_pair 88 = .ok (.aload_n 0, 1) := by decide +kernel
theorem dX7_pair_89 : decode cX7_pair 89 = .ok (.getfield 54, 3) := by decide +kernel
theorem dX7_pair_92 : decode cX7_pair 92 = .ok (.iload_n 2, 1) := by decide +kernel
theorem dX7_pair_93 : decode cX7_pair 93 = .ok (.invokevirtual 166, 3) := by decide +kernel
theorem dX7_pair_96 : decode cX7_pair 96 = .ok (.lreturn, 1) := by decide +kernel
abbrev po_X7_pair (cI cJ : ClassId) (hX7 : Nat) (aX7_above : Nat) (aX7_below : Nat) (hX3 : Nat) (hX2 : Nat) (hX1 : Nat) (hX6 : Nat) (hX0 : Nat) (hX5 : Nat) (aX5_lesser : Nat) (aX5_divisors : Nat) (t_divisorsSize : Int) (s_above : Int → Int) (s_below : Int → Int) (Q : Int → (Int → Int) → Int → Int → Int → Prop) : Option Value → va_W → Prop := fun rv w1 => ∃ (r0 : Int) (t_lesser : Int → Int) (t_size : Int) (t_listedP : Int) (t_listedQ : Int), rv = some (.long (i64 r0)) ∧ w1 = [(hX7, .inr (6, [.ref aX7_above, .ref aX7_below, .ref hX3, .ref hX2, .ref hX1, .ref hX6, .ref hX0, .ref hX5])), (hX5, .inr (4, [.ref aX5_lesser, .ref aX5_divisors, .int (i32 t_divisorsSize), .int (i32 t_size), .int (i32 t_listedP), .int (i32 t_listedQ)])), (aX7_above, aI cI 8 s_above), (aX7_below, aI cI 8 s_below), (aX5_lesser, aI cI 202 t_lesser)] ∧ r64 r0 ∧ rr32 t_lesser ∧ r32 t_size ∧ r32 t_listedP ∧ r32 t_listedQ ∧ Q r0 t_lesser t_size t_listedP t_listedQ
def wp_X7_pair_18 (Q : Int → (Int → Int) → Int → Int → Int → Prop) (s_above : Int → Int) (s_below : Int → Int) (t_lesser : Int → Int) (t_size : Int) (t_listedP : Int) (t_listedQ : Int) : Prop := Q (-1) t_lesser t_size t_listedP t_listedQ
set_option maxHeartbeats 4000000 in
set_option maxRecDepth 100000 in
theorem s_X7_pair_18 {X : Cx} (g : Gd X cX7_pair RX7 (some .long) 4) (hR : X.R = rmL 3 0 0) (hX7 : Nat) (aX7_above : Nat) (aX7_below : Nat) (hX3 : Nat) (hX2 : Nat) (hX1 : Nat) (hX6 : Nat) (hX0 : Nat) (hX5 : Nat) (aX5_lesser : Nat) (aX5_divisors : Nat) (t_divisorsSize : Int) (s_above : Int → Int) (s_below : Int → Int) (r_s_above : rr32 s_above) (r_s_below : rr32 s_below) (Q : Int → (Int → Int) → Int → Int → Int → Prop) (hF : FQ X 0 0 (po_X7_pair X.cI X.cJ hX7 aX7_above aX7_below hX3 hX2 hX1 hX6 hX0 hX5 aX5_lesser aX5_divisors t_divisorsSize s_above s_below Q)) : ∀ (t_lesser : Int → Int) (t_size : Int) (t_listedP : Int) (t_listedQ : Int), rr32 t_lesser → r32 t_size → r32 t_listedP → r32 t_listedQ → wp_X7_pair_18 Q s_above s_below t_lesser t_size t_listedP t_listedQ → Wat X 0 0 18 [] [] [(hX7, .inr (6, [.ref aX7_above, .ref aX7_below, .ref hX3, .ref hX2, .ref hX1, .ref hX6, .ref hX0, .ref hX5])), (hX5, .inr (4, [.ref aX5_lesser, .ref aX5_divisors, .int (i32 t_divisorsSize), .int (i32 t_size), .int (i32 t_listedP), .int (i32 t_listedQ)])), (aX7_above, aI X.cI 8 s_above), (aX7_below, aI X.cI 8 s_below), (aX5_lesser, aI X.cI 202 t_lesser)] := by
  intro t_lesser t_size t_listedP t_listedQ r_t_lesser r_t_size r_t_listedP r_t_listedQ h
  rw [wp_X7_pair_18] at h
  refine q_ldc2 (w := (-1)) g 83 (-1) (by decide +kernel) wL_X7_83 dX7_pair_18 ?_
  exact q_lret g hF ⟨(-1), t_lesser, t_size, t_listedP, t_listedQ, rfl, rfl, (r64_lit _ (by decide)), r_t_lesser, r_t_size, r_t_listedP, r_t_listedQ, h⟩ dX7_pair_21
def wp_X7_pair_42 (Q : Int → (Int → Int) → Int → Int → Int → Prop) (s_above : Int → Int) (s_below : Int → Int) (t_lesser : Int → Int) (t_size : Int) (t_listedP : Int) (t_listedQ : Int) : Prop := Q (-2) t_lesser t_size t_listedP t_listedQ
set_option maxHeartbeats 4000000 in
set_option maxRecDepth 100000 in
theorem s_X7_pair_42 {X : Cx} (g : Gd X cX7_pair RX7 (some .long) 4) (hR : X.R = rmL 3 0 0) (hX7 : Nat) (aX7_above : Nat) (aX7_below : Nat) (hX3 : Nat) (hX2 : Nat) (hX1 : Nat) (hX6 : Nat) (hX0 : Nat) (hX5 : Nat) (aX5_lesser : Nat) (aX5_divisors : Nat) (t_divisorsSize : Int) (s_above : Int → Int) (s_below : Int → Int) (r_s_above : rr32 s_above) (r_s_below : rr32 s_below) (Q : Int → (Int → Int) → Int → Int → Int → Prop) (hF : FQ X 0 0 (po_X7_pair X.cI X.cJ hX7 aX7_above aX7_below hX3 hX2 hX1 hX6 hX0 hX5 aX5_lesser aX5_divisors t_divisorsSize s_above s_below Q)) : ∀ (t_lesser : Int → Int) (t_size : Int) (t_listedP : Int) (t_listedQ : Int), rr32 t_lesser → r32 t_size → r32 t_listedP → r32 t_listedQ → wp_X7_pair_42 Q s_above s_below t_lesser t_size t_listedP t_listedQ → Wat X 0 0 42 [] [] [(hX7, .inr (6, [.ref aX7_above, .ref aX7_below, .ref hX3, .ref hX2, .ref hX1, .ref hX6, .ref hX0, .ref hX5])), (hX5, .inr (4, [.ref aX5_lesser, .ref aX5_divisors, .int (i32 t_divisorsSize), .int (i32 t_size), .int (i32 t_listedP), .int (i32 t_listedQ)])), (aX7_above, aI X.cI 8 s_above), (aX7_below, aI X.cI 8 s_below), (aX5_lesser, aI X.cI 202 t_lesser)] := by
  intro t_lesser t_size t_listedP t_listedQ r_t_lesser r_t_size r_t_listedP r_t_listedQ h
  rw [wp_X7_pair_42] at h
  refine q_ldc2 (w := (-2)) g 161 (-2) (by decide +kernel) wL_X7_161 dX7_pair_42 ?_
  exact q_lret g hF ⟨(-2), t_lesser, t_size, t_listedP, t_listedQ, rfl, rfl, (r64_lit _ (by decide)), r_t_lesser, r_t_size, r_t_listedP, r_t_listedQ, h⟩ dX7_pair_45
def wp_X7_pair_96 (Q : Int → (Int → Int) → Int → Int → Int → Prop) (s_above : Int → Int) (s_below : Int → Int) (t_lesser : Int → Int) (t_size : Int) (t_listedP : Int) (t_listedQ : Int) (k0 : Int) : Prop := Q k0 t_lesser t_size t_listedP t_listedQ
set_option maxHeartbeats 4000000 in
set_option maxRecDepth 100000 in
theorem s_X7_pair_96 {X : Cx} (g : Gd X cX7_pair RX7 (some .long) 4) (hR : X.R = rmL 3 0 0) (hX7 : Nat) (aX7_above : Nat) (aX7_below : Nat) (hX3 : Nat) (hX2 : Nat) (hX1 : Nat) (hX6 : Nat) (hX0 : Nat) (hX5 : Nat) (aX5_lesser : Nat) (aX5_divisors : Nat) (t_divisorsSize : Int) (s_above : Int → Int) (s_below : Int → Int) (r_s_above : rr32 s_above) (r_s_below : rr32 s_below) (Q : Int → (Int → Int) → Int → Int → Int → Prop) (hF : FQ X 0 0 (po_X7_pair X.cI X.cJ hX7 aX7_above aX7_below hX3 hX2 hX1 hX6 hX0 hX5 aX5_lesser aX5_divisors t_divisorsSize s_above s_below Q)) : ∀ (t_lesser : Int → Int) (t_size : Int) (t_listedP : Int) (t_listedQ : Int) (k0 : Int), rr32 t_lesser → r32 t_size → r32 t_listedP → r32 t_listedQ → r64 k0 → wp_X7_pair_96 Q s_above s_below t_lesser t_size t_listedP t_listedQ k0 → Wat X 0 0 96 [] [.long (i64 k0)] [(hX7, .inr (6, [.ref aX7_above, .ref aX7_below, .ref hX3, .ref hX2, .ref hX1, .ref hX6, .ref hX0, .ref hX5])), (hX5, .inr (4, [.ref aX5_lesser, .ref aX5_divisors, .int (i32 t_divisorsSize), .int (i32 t_size), .int (i32 t_listedP), .int (i32 t_listedQ)])), (aX7_above, aI X.cI 8 s_above), (aX7_below, aI X.cI 8 s_below), (aX5_lesser, aI X.cI 202 t_lesser)] := by
  intro t_lesser t_size t_listedP t_listedQ k0 r_t_lesser r_t_size r_t_listedP r_t_listedQ r_k0 h
  rw [wp_X7_pair_96] at h
  exact q_lret g hF ⟨k0, t_lesser, t_size, t_listedP, t_listedQ, rfl, rfl, r_k0, r_t_lesser, r_t_size, r_t_listedP, r_t_listedQ, h⟩ dX7_pair_96
def wp_X7_pair (Q : Int → (Int → Int) → Int → Int → Int → Prop) (s_above : Int → Int) (s_below : Int → Int) (t_lesser : Int → Int) (t_size : Int) (t_listedP : Int) (t_listedQ : Int) (l1 : Int) (l2 : Int) (l3 : Int) : Prop := wp_X7_isRegister (fun (x1 : Int) => ((x1 = 0 → wp_X7_pair_18 Q s_above s_below t_lesser t_size t_listedP t_listedQ) ∧
  (¬ (x1 = 0) → ((l2 < 0 → wp_X7_pair_18 Q s_above s_below t_lesser t_size t_listedP t_listedQ) ∧
  (¬ (l2 < 0) → wp_X7_isHalf (fun (x12 : Int) => ((¬ x12 = 0 → wp_X7_isProper (fun (x24 : Int) => ((x24 = 0 → wp_X7_pair_42 Q s_above s_below t_lesser t_size t_listedP t_listedQ) ∧
  (¬ (x24 = 0) → (0 ≤ l1 ∧ l1 < 8 ∧ (((s_below l1) ≤ 5000 → (0 ≤ l1 ∧ l1 < 8 ∧ 0 ≤ l1 ∧ l1 < 8 ∧ wp_X5_list (fun (x63 : Int) (t_lesser_63 : Int → Int) (t_size_63 : Int) (t_listedP_63 : Int) (t_listedQ_63 : Int) => ((l2 < x63 → ((¬ l3 = 0 → wp_X5_greater (fun (x93 : Int) => wp_X7_pair_96 Q s_above s_below t_lesser_63 t_size_63 t_listedP_63 t_listedQ_63 x93) t_lesser_63 t_size_63 t_listedP_63 t_listedQ_63 l2) ∧
  (l3 = 0 → wp_X5_lesser (fun (x82 : Int) => wp_X7_pair_96 Q s_above s_below t_lesser_63 t_size_63 t_listedP_63 t_listedQ_63 x82) t_lesser_63 t_size_63 l2))) ∧
  (¬ (l2 < x63) → Q (-4) t_lesser_63 t_size_63 t_listedP_63 t_listedQ_63))) t_lesser t_size t_listedP t_listedQ (s_above l1) (s_below l1))) ∧
  (¬ ((s_below l1) ≤ 5000) → wp_X7_pair_42 Q s_above s_below t_lesser t_size t_listedP t_listedQ)))))) s_above s_below l1) ∧
  (x12 = 0 → wp_X7_pair_18 Q s_above s_below t_lesser t_size t_listedP t_listedQ))) l3))))) l1
set_option maxHeartbeats 4000000 in
set_option maxRecDepth 100000 in
theorem c_X7_pair (l : Launch) (D : va_G) (cI cJ : ClassId) (zt : Nat) (hX7 : Nat) (aX7_above : Nat) (aX7_below : Nat) (hX3 : Nat) (hX2 : Nat) (hX1 : Nat) (hX6 : Nat) (hX0 : Nat) (hX5 : Nat) (aX5_lesser : Nat) (aX5_divisors : Nat) (t_divisorsSize : Int) (t_size : Int) (t_listedP : Int) (t_listedQ : Int) (s_above : Int → Int) (s_below : Int → Int) (t_lesser : Int → Int) (l1 : Int) (l2 : Int) (l3 : Int) (Q : Int → (Int → Int) → Int → Int → Int → Prop) (r_s_above : rr32 s_above) (r_s_below : rr32 s_below) (r_t_lesser : rr32 t_lesser) (r_t_size : r32 t_size) (r_t_listedP : r32 t_listedP) (r_t_listedQ : r32 t_listedQ) (r_l1 : r32 l1) (r_l2 : r32 l2) (r_l3 : r32 l3) (h : wp_X7_pair Q s_above s_below t_lesser t_size t_listedP t_listedQ l1 l2 l3) : Ct l D cI cJ zt yX7_pair cX7_pair 4 (some .long) 3 0 0 [.ref hX7, .int (i32 l1), .int (i32 l2), .int (i32 l3)] [(hX7, .inr (6, [.ref aX7_above, .ref aX7_below, .ref hX3, .ref hX2, .ref hX1, .ref hX6, .ref hX0, .ref hX5])), (hX5, .inr (4, [.ref aX5_lesser, .ref aX5_divisors, .int (i32 t_divisorsSize), .int (i32 t_size), .int (i32 t_listedP), .int (i32 t_listedQ)])), (aX7_above, aI cI 8 s_above), (aX7_below, aI cI 8 s_below), (aX5_lesser, aI cI 202 t_lesser)] (po_X7_pair cI cJ hX7 aX7_above aX7_below hX3 hX2 hX1 hX6 hX0 hX5 aX5_lesser aX5_divisors t_divisorsSize s_above s_below Q) := by
  refine ct_of (by decide +kernel) (Nat.le_of_ble_eq_true rfl) (fun X hl hDD hcI hcJ hzt hR hF hnm g => ?_)
  subst hl; subst hDD; subst hcI; subst hcJ; subst hzt
  show Wat X 0 0 0 [(0, .ref hX7), (1, .int (i32 l1)), (2, .int (i32 l2)), (3, .int (i32 l3))] [] [(hX7, .inr (6, [.ref aX7_above, .ref aX7_below, .ref hX3, .ref hX2, .ref hX1, .ref hX6, .ref hX0, .ref hX5])), (hX5, .inr (4, [.ref aX5_lesser, .ref aX5_divisors, .int (i32 t_divisorsSize), .int (i32 t_size), .int (i32 t_listedP), .int (i32 t_listedQ)])), (aX7_above, aI X.cI 8 s_above), (aX7_below, aI X.cI 8 s_below), (aX5_lesser, aI X.cI 202 t_lesser)]
  replace g : Gd X cX7_pair RX7 (some .long) 4 := g
  rw [wp_X7_pair] at h
  refine q_iload_n g 1 1 rfl dX7_pair_0 ?_
  refine q_callS (lev := 1) (mc := 0) (ms := 0) (As := [.int (i32 l1)]) g 64 (c_X7_isRegister X.l X.D X.cI X.cJ X.zt l1 _ r_l1 h) (wr := [(hX7, .inr (6, [.ref aX7_above, .ref aX7_below, .ref hX3, .ref hX2, .ref hX1, .ref hX6, .ref hX0, .ref hX5])), (hX5, .inr (4, [.ref aX5_lesser, .ref aX5_divisors, .int (i32 t_divisorsSize), .int (i32 t_size), .int (i32 t_listedP), .int (i32 t_listedQ)])), (aX7_above, aI X.cI 8 s_above), (aX7_below, aI X.cI 8 s_below), (aX5_lesser, aI X.cI 202 t_lesser)]) [] [0, 1, 2, 3, 4] rfl rfl rfl (by decide) (by decide) (by decide) wM_X7_64 wT_X7_isRegister wZ_X7 wC_X7_isRegister 1 rfl (by decide +kernel) (by rw [hR]; exact ⟨by show 1 + 1 ≤ 3; omega, by show 8 + (1 + 11) + 100 * 1 ≤ 100 * 3; omega⟩) (by rw [hR]; exact ⟨Nat.le_refl _, Nat.le_refl _⟩) (Nat.le_of_ble_eq_true rfl) rfl dX7_pair_1 (fun rv w1 hq => ?_)
  obtain ⟨x1, rfl, rfl, rx1, h⟩ := hq
  show Wat X 0 0 4 [(0, .ref hX7), (1, .int (i32 l1)), (2, .int (i32 l2)), (3, .int (i32 l3))] [.int (i32 x1)] [(hX7, .inr (6, [.ref aX7_above, .ref aX7_below, .ref hX3, .ref hX2, .ref hX1, .ref hX6, .ref hX0, .ref hX5])), (hX5, .inr (4, [.ref aX5_lesser, .ref aX5_divisors, .int (i32 t_divisorsSize), .int (i32 t_size), .int (i32 t_listedP), .int (i32 t_listedQ)])), (aX7_above, aI X.cI 8 s_above), (aX7_below, aI X.cI 8 s_below), (aX5_lesser, aI X.cI 202 t_lesser)]
  refine q_if_eq g (14) 18 rx1 (by decide) dX7_pair_4 (fun b4 => ?_) (fun b4 => ?_)
  · replace h := h.1 b4
    refine q_lv (lv' := []) [] rfl ?_
    exact s_X7_pair_18 g hR hX7 aX7_above aX7_below hX3 hX2 hX1 hX6 hX0 hX5 aX5_lesser aX5_divisors t_divisorsSize s_above s_below r_s_above r_s_below Q hF t_lesser t_size t_listedP t_listedQ r_t_lesser r_t_size r_t_listedP r_t_listedQ h
  replace h := h.2 b4
  refine q_iload_n g 2 2 rfl dX7_pair_7 ?_
  refine q_if_lt g (10) 18 r_l2 (by decide) dX7_pair_8 (fun b8 => ?_) (fun b8 => ?_)
  · replace h := h.1 b8
    refine q_lv (lv' := []) [] rfl ?_
    exact s_X7_pair_18 g hR hX7 aX7_above aX7_below hX3 hX2 hX1 hX6 hX0 hX5 aX5_lesser aX5_divisors t_divisorsSize s_above s_below r_s_above r_s_below Q hF t_lesser t_size t_listedP t_listedQ r_t_lesser r_t_size r_t_listedP r_t_listedQ h
  replace h := h.2 b8
  refine q_iload_n g 3 3 rfl dX7_pair_11 ?_
  refine q_callS (lev := 1) (mc := 0) (ms := 0) (As := [.int (i32 l3)]) g 73 (c_X7_isHalf X.l X.D X.cI X.cJ X.zt l3 _ r_l3 h) (wr := [(hX7, .inr (6, [.ref aX7_above, .ref aX7_below, .ref hX3, .ref hX2, .ref hX1, .ref hX6, .ref hX0, .ref hX5])), (hX5, .inr (4, [.ref aX5_lesser, .ref aX5_divisors, .int (i32 t_divisorsSize), .int (i32 t_size), .int (i32 t_listedP), .int (i32 t_listedQ)])), (aX7_above, aI X.cI 8 s_above), (aX7_below, aI X.cI 8 s_below), (aX5_lesser, aI X.cI 202 t_lesser)]) [] [0, 1, 2, 3, 4] rfl rfl rfl (by decide) (by decide) (by decide) wM_X7_73 wT_X7_isHalf wZ_X7 wC_X7_isHalf 1 rfl (by decide +kernel) (by rw [hR]; exact ⟨by show 1 + 1 ≤ 3; omega, by show 8 + (1 + 11) + 100 * 1 ≤ 100 * 3; omega⟩) (by rw [hR]; exact ⟨Nat.le_refl _, Nat.le_refl _⟩) (Nat.le_of_ble_eq_true rfl) rfl dX7_pair_12 (fun rv w1 hq => ?_)
  obtain ⟨x12, rfl, rfl, rx12, h⟩ := hq
  show Wat X 0 0 15 [(0, .ref hX7), (1, .int (i32 l1)), (2, .int (i32 l2)), (3, .int (i32 l3))] [.int (i32 x12)] [(hX7, .inr (6, [.ref aX7_above, .ref aX7_below, .ref hX3, .ref hX2, .ref hX1, .ref hX6, .ref hX0, .ref hX5])), (hX5, .inr (4, [.ref aX5_lesser, .ref aX5_divisors, .int (i32 t_divisorsSize), .int (i32 t_size), .int (i32 t_listedP), .int (i32 t_listedQ)])), (aX7_above, aI X.cI 8 s_above), (aX7_below, aI X.cI 8 s_below), (aX5_lesser, aI X.cI 202 t_lesser)]
  refine q_if_ne g (7) 22 rx12 (by decide) dX7_pair_15 (fun b15 => ?_) (fun b15 => ?_)
  · replace h := h.1 b15
    refine q_aload_n g 0 0 rfl dX7_pair_22 ?_
    refine q_iload_n g 1 1 rfl dX7_pair_23 ?_
    refine q_callV (lev := 2) (mc := 0) (ms := 0) g 91 (c_X7_isProper X.l X.D X.cI X.cJ X.zt hX7 aX7_above aX7_below hX3 hX2 hX1 hX6 hX0 hX5 s_above s_below l1 _ r_s_above r_s_below r_l1 h) (wr := [(hX5, .inr (4, [.ref aX5_lesser, .ref aX5_divisors, .int (i32 t_divisorsSize), .int (i32 t_size), .int (i32 t_listedP), .int (i32 t_listedQ)])), (aX5_lesser, aI X.cI 202 t_lesser)]) [0, 2, 3] [1, 4] rfl rfl rfl (by decide) (by decide) (by decide) (ci := 6) rfl rfl rfl wM_X7_91 wI_X7_isProper wS_X7_isProper wZ_X7 wC_X7_isProper 1 rfl (by decide +kernel) (by rw [hR]; exact ⟨by show 2 + 1 ≤ 3; omega, by show 8 + (2 + 11) + 100 * 2 ≤ 100 * 3; omega⟩) (by rw [hR]; exact ⟨Nat.le_refl _, Nat.le_refl _⟩) (Nat.le_of_ble_eq_true rfl) rfl dX7_pair_24 (fun rv w1 hq => ?_)
    obtain ⟨x24, rfl, rfl, rx24, h⟩ := hq
    refine q_ws (ws' := [(hX7, .inr (6, [.ref aX7_above, .ref aX7_below, .ref hX3, .ref hX2, .ref hX1, .ref hX6, .ref hX0, .ref hX5])), (hX5, .inr (4, [.ref aX5_lesser, .ref aX5_divisors, .int (i32 t_divisorsSize), .int (i32 t_size), .int (i32 t_listedP), .int (i32 t_listedQ)])), (aX7_above, aI X.cI 8 s_above), (aX7_below, aI X.cI 8 s_below), (aX5_lesser, aI X.cI 202 t_lesser)]) [2, 0, 3, 4, 1] (by decide) rfl rfl ?_
    show Wat X 0 0 27 [(0, .ref hX7), (1, .int (i32 l1)), (2, .int (i32 l2)), (3, .int (i32 l3))] [.int (i32 x24)] [(hX7, .inr (6, [.ref aX7_above, .ref aX7_below, .ref hX3, .ref hX2, .ref hX1, .ref hX6, .ref hX0, .ref hX5])), (hX5, .inr (4, [.ref aX5_lesser, .ref aX5_divisors, .int (i32 t_divisorsSize), .int (i32 t_size), .int (i32 t_listedP), .int (i32 t_listedQ)])), (aX7_above, aI X.cI 8 s_above), (aX7_below, aI X.cI 8 s_below), (aX5_lesser, aI X.cI 202 t_lesser)]
    refine q_if_eq g (15) 42 rx24 (by decide) dX7_pair_27 (fun b27 => ?_) (fun b27 => ?_)
    · replace h := h.1 b27
      refine q_lv (lv' := []) [] rfl ?_
      exact s_X7_pair_42 g hR hX7 aX7_above aX7_below hX3 hX2 hX1 hX6 hX0 hX5 aX5_lesser aX5_divisors t_divisorsSize s_above s_below r_s_above r_s_below Q hF t_lesser t_size t_listedP t_listedQ r_t_lesser r_t_size r_t_listedP r_t_listedQ h
    replace h := h.2 b27
    refine q_aload_n g 0 0 rfl dX7_pair_30 ?_
    refine q_get (C := RX7) (T := TX7) (N := 8) g 13 inX7 0 1 rfl rfl (by decide) wF_X7_13 rfl dX7_pair_31 ?_
    refine q_iload_n g 1 1 rfl dX7_pair_34 ?_
    obtain ⟨c35, h⟩ := h
    obtain ⟨e35, h⟩ := h
    refine q_iald g 3 rfl c35 e35 (by decide) dX7_pair_35 ?_
    refine q_sipush g (5000) (by decide) (by decide) dX7_pair_36 ?_
    refine q_icmp_le g (7) 46 (r_s_below _) (r32_lit _ (by decide)) (by decide) dX7_pair_39 (fun b39 => ?_) (fun b39 => ?_)
    · replace h := h.1 b39
      refine q_iload_n g 2 2 rfl dX7_pair_46 ?_
      refine q_aload_n g 0 0 rfl dX7_pair_47 ?_
      refine q_get (C := RX7) (T := TX7) (N := 8) g 54 inX7 0 7 rfl rfl (by decide) wF_X7_54 rfl dX7_pair_48 ?_
      refine q_aload_n g 0 0 rfl dX7_pair_51 ?_
      refine q_get (C := RX7) (T := TX7) (N := 8) g 9 inX7 0 0 rfl rfl (by decide) wF_X7_9 rfl dX7_pair_52 ?_
      refine q_iload_n g 1 1 rfl dX7_pair_55 ?_
      obtain ⟨c56, h⟩ := h
      obtain ⟨e56, h⟩ := h
      refine q_iald g 2 rfl c56 e56 (by decide) dX7_pair_56 ?_
      refine q_aload_n g 0 0 rfl dX7_pair_57 ?_
      refine q_get (C := RX7) (T := TX7) (N := 8) g 13 inX7 0 1 rfl rfl (by decide) wF_X7_13 rfl dX7_pair_58 ?_
      refine q_iload_n g 1 1 rfl dX7_pair_61 ?_
      obtain ⟨c62, h⟩ := h
      obtain ⟨e62, h⟩ := h
      refine q_iald g 3 rfl c62 e62 (by decide) dX7_pair_62 ?_
      refine q_callV (lev := 2) (mc := 0) (ms := 0) g 158 (c_X5_list X.l X.D X.cI X.cJ X.zt hX5 aX5_lesser aX5_divisors t_divisorsSize t_size t_listedP t_listedQ t_lesser (s_above l1) (s_below l1) _ r_t_lesser r_t_size r_t_listedP r_t_listedQ (r_s_above _) (r_s_below _) h) (wr := [(hX7, .inr (6, [.ref aX7_above, .ref aX7_below, .ref hX3, .ref hX2, .ref hX1, .ref hX6, .ref hX0, .ref hX5])), (aX7_above, aI X.cI 8 s_above), (aX7_below, aI X.cI 8 s_below)]) [1, 4] [0, 2, 3] rfl rfl rfl (by decide) (by decide) (by decide) (ci := 4) rfl rfl rfl wM_X7_158 wI_X5_list wS_X5_list wZ_X5 wC_X5_list 2 rfl (by decide +kernel) (by rw [hR]; exact ⟨by show 2 + 1 ≤ 3; omega, by show 8 + (3 + 11) + 100 * 2 ≤ 100 * 3; omega⟩) (by rw [hR]; exact ⟨Nat.le_refl _, Nat.le_refl _⟩) (Nat.le_of_ble_eq_true rfl) rfl dX7_pair_63 (fun rv w1 hq => ?_)
      obtain ⟨x63, t_lesser_63, t_size_63, t_listedP_63, t_listedQ_63, rfl, rfl, rx63, rt_lesser_63, rt_size_63, rt_listedP_63, rt_listedQ_63, h⟩ := hq
      refine q_ws (ws' := [(hX7, .inr (6, [.ref aX7_above, .ref aX7_below, .ref hX3, .ref hX2, .ref hX1, .ref hX6, .ref hX0, .ref hX5])), (hX5, .inr (4, [.ref aX5_lesser, .ref aX5_divisors, .int (i32 t_divisorsSize), .int (i32 t_size_63), .int (i32 t_listedP_63), .int (i32 t_listedQ_63)])), (aX7_above, aI X.cI 8 s_above), (aX7_below, aI X.cI 8 s_below), (aX5_lesser, aI X.cI 202 t_lesser_63)]) [0, 3, 1, 2, 4] (by decide) rfl rfl ?_
      show Wat X 0 0 66 [(0, .ref hX7), (1, .int (i32 l1)), (2, .int (i32 l2)), (3, .int (i32 l3))] [.int (i32 x63), .int (i32 l2)] [(hX7, .inr (6, [.ref aX7_above, .ref aX7_below, .ref hX3, .ref hX2, .ref hX1, .ref hX6, .ref hX0, .ref hX5])), (hX5, .inr (4, [.ref aX5_lesser, .ref aX5_divisors, .int (i32 t_divisorsSize), .int (i32 t_size_63), .int (i32 t_listedP_63), .int (i32 t_listedQ_63)])), (aX7_above, aI X.cI 8 s_above), (aX7_below, aI X.cI 8 s_below), (aX5_lesser, aI X.cI 202 t_lesser_63)]
      refine q_icmp_lt g (7) 73 r_l2 rx63 (by decide) dX7_pair_66 (fun b66 => ?_) (fun b66 => ?_)
      · replace h := h.1 b66
        refine q_iload_n g 3 3 rfl dX7_pair_73 ?_
        refine q_if_ne g (14) 88 r_l3 (by decide) dX7_pair_74 (fun b74 => ?_) (fun b74 => ?_)
        · replace h := h.1 b74
          refine q_aload_n g 0 0 rfl dX7_pair_88 ?_
          refine q_get (C := RX7) (T := TX7) (N := 8) g 54 inX7 0 7 rfl rfl (by decide) wF_X7_54 rfl dX7_pair_89 ?_
          refine q_iload_n g 2 2 rfl dX7_pair_92 ?_
          refine q_callV (lev := 2) (mc := 0) (ms := 0) g 166 (c_X5_greater X.l X.D X.cI X.cJ X.zt hX5 aX5_lesser aX5_divisors t_divisorsSize t_size_63 t_listedP_63 t_listedQ_63 t_lesser_63 l2 _ rt_lesser_63 rt_size_63 rt_listedP_63 rt_listedQ_63 r_l2 h) (wr := [(hX7, .inr (6, [.ref aX7_above, .ref aX7_below, .ref hX3, .ref hX2, .ref hX1, .ref hX6, .ref hX0, .ref hX5])), (aX7_above, aI X.cI 8 s_above), (aX7_below, aI X.cI 8 s_below)]) [1, 4] [0, 2, 3] rfl rfl rfl (by decide) (by decide) (by decide) (ci := 4) rfl rfl rfl wM_X7_166 wI_X5_greater wS_X5_greater wZ_X5 wC_X5_greater 1 rfl (by decide +kernel) (by rw [hR]; exact ⟨by show 2 + 1 ≤ 3; omega, by show 8 + (6 + 11) + 100 * 2 ≤ 100 * 3; omega⟩) (by rw [hR]; exact ⟨Nat.le_refl _, Nat.le_refl _⟩) (Nat.le_of_ble_eq_true rfl) rfl dX7_pair_93 (fun rv w1 hq => ?_)
          obtain ⟨x93, rfl, rfl, rx93, h⟩ := hq
          refine q_ws (ws' := [(hX7, .inr (6, [.ref aX7_above, .ref aX7_below, .ref hX3, .ref hX2, .ref hX1, .ref hX6, .ref hX0, .ref hX5])), (hX5, .inr (4, [.ref aX5_lesser, .ref aX5_divisors, .int (i32 t_divisorsSize), .int (i32 t_size_63), .int (i32 t_listedP_63), .int (i32 t_listedQ_63)])), (aX7_above, aI X.cI 8 s_above), (aX7_below, aI X.cI 8 s_below), (aX5_lesser, aI X.cI 202 t_lesser_63)]) [0, 3, 1, 2, 4] (by decide) rfl rfl ?_
          show Wat X 0 0 96 [(0, .ref hX7), (1, .int (i32 l1)), (2, .int (i32 l2)), (3, .int (i32 l3))] [.long (i64 x93)] [(hX7, .inr (6, [.ref aX7_above, .ref aX7_below, .ref hX3, .ref hX2, .ref hX1, .ref hX6, .ref hX0, .ref hX5])), (hX5, .inr (4, [.ref aX5_lesser, .ref aX5_divisors, .int (i32 t_divisorsSize), .int (i32 t_size_63), .int (i32 t_listedP_63), .int (i32 t_listedQ_63)])), (aX7_above, aI X.cI 8 s_above), (aX7_below, aI X.cI 8 s_below), (aX5_lesser, aI X.cI 202 t_lesser_63)]
          refine q_lv (lv' := []) [] rfl ?_
          exact s_X7_pair_96 g hR hX7 aX7_above aX7_below hX3 hX2 hX1 hX6 hX0 hX5 aX5_lesser aX5_divisors t_divisorsSize s_above s_below r_s_above r_s_below Q hF t_lesser_63 t_size_63 t_listedP_63 t_listedQ_63 x93 rt_lesser_63 rt_size_63 rt_listedP_63 rt_listedQ_63 rx93 h
        replace h := h.2 b74
        refine q_aload_n g 0 0 rfl dX7_pair_77 ?_
        refine q_get (C := RX7) (T := TX7) (N := 8) g 54 inX7 0 7 rfl rfl (by decide) wF_X7_54 rfl dX7_pair_78 ?_
        refine q_iload_n g 2 2 rfl dX7_pair_81 ?_
        refine q_callV (lev := 1) (mc := 0) (ms := 0) g 163 (c_X5_lesser X.l X.D X.cI X.cJ X.zt hX5 aX5_lesser aX5_divisors t_divisorsSize t_size_63 t_listedP_63 t_listedQ_63 t_lesser_63 l2 _ rt_lesser_63 rt_size_63 r_l2 h) (wr := [(hX7, .inr (6, [.ref aX7_above, .ref aX7_below, .ref hX3, .ref hX2, .ref hX1, .ref hX6, .ref hX0, .ref hX5])), (aX7_above, aI X.cI 8 s_above), (aX7_below, aI X.cI 8 s_below)]) [1, 4] [0, 2, 3] rfl rfl rfl (by decide) (by decide) (by decide) (ci := 4) rfl rfl rfl wM_X7_163 wI_X5_lesser wS_X5_lesser wZ_X5 wC_X5_lesser 1 rfl (by decide +kernel) (by rw [hR]; exact ⟨by show 1 + 1 ≤ 3; omega, by show 8 + (2 + 11) + 100 * 1 ≤ 100 * 3; omega⟩) (by rw [hR]; exact ⟨Nat.le_refl _, Nat.le_refl _⟩) (Nat.le_of_ble_eq_true rfl) rfl dX7_pair_82 (fun rv w1 hq => ?_)
        obtain ⟨x82, rfl, rfl, rx82, h⟩ := hq
        refine q_ws (ws' := [(hX7, .inr (6, [.ref aX7_above, .ref aX7_below, .ref hX3, .ref hX2, .ref hX1, .ref hX6, .ref hX0, .ref hX5])), (hX5, .inr (4, [.ref aX5_lesser, .ref aX5_divisors, .int (i32 t_divisorsSize), .int (i32 t_size_63), .int (i32 t_listedP_63), .int (i32 t_listedQ_63)])), (aX7_above, aI X.cI 8 s_above), (aX7_below, aI X.cI 8 s_below), (aX5_lesser, aI X.cI 202 t_lesser_63)]) [0, 3, 1, 2, 4] (by decide) rfl rfl ?_
        show Wat X 0 0 85 [(0, .ref hX7), (1, .int (i32 l1)), (2, .int (i32 l2)), (3, .int (i32 l3))] [.long (i64 x82)] [(hX7, .inr (6, [.ref aX7_above, .ref aX7_below, .ref hX3, .ref hX2, .ref hX1, .ref hX6, .ref hX0, .ref hX5])), (hX5, .inr (4, [.ref aX5_lesser, .ref aX5_divisors, .int (i32 t_divisorsSize), .int (i32 t_size_63), .int (i32 t_listedP_63), .int (i32 t_listedQ_63)])), (aX7_above, aI X.cI 8 s_above), (aX7_below, aI X.cI 8 s_below), (aX5_lesser, aI X.cI 202 t_lesser_63)]
        refine q_goto g (11) 96 (by decide) dX7_pair_85 ?_
        refine q_lv (lv' := []) [] rfl ?_
        exact s_X7_pair_96 g hR hX7 aX7_above aX7_below hX3 hX2 hX1 hX6 hX0 hX5 aX5_lesser aX5_divisors t_divisorsSize s_above s_below r_s_above r_s_below Q hF t_lesser_63 t_size_63 t_listedP_63 t_listedQ_63 x82 rt_lesser_63 rt_size_63 rt_listedP_63 rt_listedQ_63 rx82 h
      replace h := h.2 b66
      refine q_ldc2 (w := (-4)) g 89 (-4) (by decide +kernel) wL_X7_89 dX7_pair_69 ?_
      exact q_lret g hF ⟨(-4), t_lesser_63, t_size_63, t_listedP_63, t_listedQ_63, rfl, rfl, (r64_lit _ (by decide)), rt_lesser_63, rt_size_63, rt_listedP_63, rt_listedQ_63, h⟩ dX7_pair_72
    replace h := h.2 b39
    refine q_lv (lv' := []) [] rfl ?_
    exact s_X7_pair_42 g hR hX7 aX7_above aX7_below hX3 hX2 hX1 hX6 hX0 hX5 aX5_lesser aX5_divisors t_divisorsSize s_above s_below r_s_above r_s_below Q hF t_lesser t_size t_listedP t_listedQ r_t_lesser r_t_size r_t_listedP r_t_listedQ h
  replace h := h.2 b15
  refine q_lv (lv' := []) [] rfl ?_
  exact s_X7_pair_18 g hR hX7 aX7_above aX7_below hX3 hX2 hX1 hX6 hX0 hX5 aX5_lesser aX5_divisors t_divisorsSize s_above s_below r_s_above r_s_below Q hF t_lesser t_size t_listedP t_listedQ r_t_lesser r_t_size r_t_listedP r_t_listedQ h
theorem dX7_pairs_0 : decode cX7_pairs 0 = .ok (.iload_n 1, 1) := by decide +kernel
theorem dX7_pairs_1 : decode cX7_pairs 1 = .ok (.invokestatic 64, 3) := by decide +kernel
theorem dX7_pairs_4 : decode cX7_pairs 4 = .ok (.ifCond .ne 5, 3) := by decide +kernel
theorem dX7_pairs_7 : decode cX7_pairs 7 = .ok (.iconst (-1), 1) := by decide +kernel
theorem dX7_pairs_8 : decode cX7_pairs 8 = .ok (.ireturn, 1) := by decide +kernel
theorem dX7_pairs_9 : decode cX7_pairs 9 = .ok (.aload_n 0, 1) := by decide +kernel
theorem dX7_pairs_10 : decode cX7_pairs 10 = .ok (.iload_n 1, 1) := by decide +kernel
theorem dX7_pairs_11 : decode cX7_pairs 11 = .ok (.invokevirtual 91, 3) := by decide +kernel
theorem dX7_pairs_14 : decode cX7_pairs 14 = .ok (.ifCond .eq 15, 3) := by decide +kernel
theorem dX7_pairs_17 : decode cX7_pairs 17 = .ok (.aload_n 0, 1) := by decide +kernel
theorem dX7_pairs_18 : decode cX7_pairs 18 = .ok (.getfield 13, 3) := by decide +kernel
theorem dX7_pairs_21 : decode cX7_pairs 21 = .ok (.iload_n 1, 1) := by decide +kernel
theorem dX7_pairs_22 : decode cX7_pairs 22 = .ok (.iaload, 1) := by decide +kernel
theorem dX7_pairs_23 : decode cX7_pairs 23 = .ok (.sipush 5000, 3) := by decide +kernel
theorem dX7_pairs_26 : decode cX7_pairs 26 = .ok (.if_icmp .le 6, 3) := by decide +kernel
theorem dX7_pairs_29 : decode cX7_pairs 29 = .ok (.bipush (-2), 2) := by decide +kernel
theorem dX7_pairs_31 : decode cX7_pairs 31 = .ok (.ireturn, 1) := by decide +kernel
theorem dX7_pairs_32 : decode cX7_pairs 32 = .ok (.aload_n 0, 1) := by decide +kernel
theorem dX7_pairs_33 : decode cX7_pairs 33 = .ok (.getfield 54, 3) := by decide +kernel
theorem dX7_pairs_36 : decode cX7_pairs 36 = .ok (.aload_n 0, 1) := by decide +kernel
theorem dX7_pairs_37 : decode cX7_pairs 37 = .ok (.getfield 9, 3) := by decide +kernel
theorem dX7_pairs_40 : decode cX7_pairs 40 = .ok (.iload_n 1, 1) := by decide +kernel
theorem dX7_pairs_41 : decode cX7_pairs 41 = .ok (.iaload, 1) := by decide +kernel
theorem dX7_pairs_42 : decode cX7_pairs 42 = .ok (.aload_n 0, 1) := by decide +kernel
theorem dX7_pairs_43 : decode cX7_pairs 43 = .ok (.getfield 13, 3) := by decide +kernel
theorem dX7_pairs_46 : decode cX7_pairs 46 = .ok (.iload_n 1, 1) := by decide +kernel
theorem dX7_pairs_47 : decode cX7_pairs 47 = .ok (.iaload, 1) := by decide +kernel
theorem dX7_pairs_48 : decode cX7_pairs 48 = .ok (.invokevirtual 158, 3) := by decide +kernel
theorem dX7_pairs_51 : decode cX7_pairs 51 = .ok (.ireturn, 1) := by decide +kernel
abbrev po_X7_pairs (cI cJ : ClassId) (hX7 : Nat) (aX7_above : Nat) (aX7_below : Nat) (hX3 : Nat) (hX2 : Nat) (hX1 : Nat) (hX6 : Nat) (hX0 : Nat) (hX5 : Nat) (aX5_lesser : Nat) (aX5_divisors : Nat) (t_divisorsSize : Int) (s_above : Int → Int) (s_below : Int → Int) (Q : Int → (Int → Int) → Int → Int → Int → Prop) : Option Value → va_W → Prop := fun rv w1 => ∃ (r0 : Int) (t_lesser : Int → Int) (t_size : Int) (t_listedP : Int) (t_listedQ : Int), rv = some (.int (i32 r0)) ∧ w1 = [(hX7, .inr (6, [.ref aX7_above, .ref aX7_below, .ref hX3, .ref hX2, .ref hX1, .ref hX6, .ref hX0, .ref hX5])), (hX5, .inr (4, [.ref aX5_lesser, .ref aX5_divisors, .int (i32 t_divisorsSize), .int (i32 t_size), .int (i32 t_listedP), .int (i32 t_listedQ)])), (aX7_above, aI cI 8 s_above), (aX7_below, aI cI 8 s_below), (aX5_lesser, aI cI 202 t_lesser)] ∧ r32 r0 ∧ rr32 t_lesser ∧ r32 t_size ∧ r32 t_listedP ∧ r32 t_listedQ ∧ Q r0 t_lesser t_size t_listedP t_listedQ
def wp_X7_pairs_29 (Q : Int → (Int → Int) → Int → Int → Int → Prop) (s_above : Int → Int) (s_below : Int → Int) (t_lesser : Int → Int) (t_size : Int) (t_listedP : Int) (t_listedQ : Int) : Prop := Q (-2) t_lesser t_size t_listedP t_listedQ
set_option maxHeartbeats 4000000 in
set_option maxRecDepth 100000 in
theorem s_X7_pairs_29 {X : Cx} (g : Gd X cX7_pairs RX7 (some .int) 2) (hR : X.R = rmL 3 0 0) (hX7 : Nat) (aX7_above : Nat) (aX7_below : Nat) (hX3 : Nat) (hX2 : Nat) (hX1 : Nat) (hX6 : Nat) (hX0 : Nat) (hX5 : Nat) (aX5_lesser : Nat) (aX5_divisors : Nat) (t_divisorsSize : Int) (s_above : Int → Int) (s_below : Int → Int) (r_s_above : rr32 s_above) (r_s_below : rr32 s_below) (Q : Int → (Int → Int) → Int → Int → Int → Prop) (hF : FQ X 0 0 (po_X7_pairs X.cI X.cJ hX7 aX7_above aX7_below hX3 hX2 hX1 hX6 hX0 hX5 aX5_lesser aX5_divisors t_divisorsSize s_above s_below Q)) : ∀ (t_lesser : Int → Int) (t_size : Int) (t_listedP : Int) (t_listedQ : Int), rr32 t_lesser → r32 t_size → r32 t_listedP → r32 t_listedQ → wp_X7_pairs_29 Q s_above s_below t_lesser t_size t_listedP t_listedQ → Wat X 0 0 29 [] [] [(hX7, .inr (6, [.ref aX7_above, .ref aX7_below, .ref hX3, .ref hX2, .ref hX1, .ref hX6, .ref hX0, .ref hX5])), (hX5, .inr (4, [.ref aX5_lesser, .ref aX5_divisors, .int (i32 t_divisorsSize), .int (i32 t_size), .int (i32 t_listedP), .int (i32 t_listedQ)])), (aX7_above, aI X.cI 8 s_above), (aX7_below, aI X.cI 8 s_below), (aX5_lesser, aI X.cI 202 t_lesser)] := by
  intro t_lesser t_size t_listedP t_listedQ r_t_lesser r_t_size r_t_listedP r_t_listedQ h
  rw [wp_X7_pairs_29] at h
  refine q_bipush g (-2) (by decide) (by decide) dX7_pairs_29 ?_
  exact q_iret g hF ⟨(-2), t_lesser, t_size, t_listedP, t_listedQ, rfl, rfl, (r32_lit _ (by decide)), r_t_lesser, r_t_size, r_t_listedP, r_t_listedQ, h⟩ dX7_pairs_31
def wp_X7_pairs (Q : Int → (Int → Int) → Int → Int → Int → Prop) (s_above : Int → Int) (s_below : Int → Int) (t_lesser : Int → Int) (t_size : Int) (t_listedP : Int) (t_listedQ : Int) (l1 : Int) : Prop := wp_X7_isRegister (fun (x1 : Int) => ((¬ x1 = 0 → wp_X7_isProper (fun (x11 : Int) => ((x11 = 0 → wp_X7_pairs_29 Q s_above s_below t_lesser t_size t_listedP t_listedQ) ∧
  (¬ (x11 = 0) → (0 ≤ l1 ∧ l1 < 8 ∧ (((s_below l1) ≤ 5000 → (0 ≤ l1 ∧ l1 < 8 ∧ 0 ≤ l1 ∧ l1 < 8 ∧ wp_X5_list (fun (x48 : Int) (t_lesser_48 : Int → Int) (t_size_48 : Int) (t_listedP_48 : Int) (t_listedQ_48 : Int) => Q x48 t_lesser_48 t_size_48 t_listedP_48 t_listedQ_48) t_lesser t_size t_listedP t_listedQ (s_above l1) (s_below l1))) ∧
  (¬ ((s_below l1) ≤ 5000) → wp_X7_pairs_29 Q s_above s_below t_lesser t_size t_listedP t_listedQ)))))) s_above s_below l1) ∧
  (x1 = 0 → Q (-1) t_lesser t_size t_listedP t_listedQ))) l1
set_option maxHeartbeats 4000000 in
set_option maxRecDepth 100000 in
theorem c_X7_pairs (l : Launch) (D : va_G) (cI cJ : ClassId) (zt : Nat) (hX7 : Nat) (aX7_above : Nat) (aX7_below : Nat) (hX3 : Nat) (hX2 : Nat) (hX1 : Nat) (hX6 : Nat) (hX0 : Nat) (hX5 : Nat) (aX5_lesser : Nat) (aX5_divisors : Nat) (t_divisorsSize : Int) (t_size : Int) (t_listedP : Int) (t_listedQ : Int) (s_above : Int → Int) (s_below : Int → Int) (t_lesser : Int → Int) (l1 : Int) (Q : Int → (Int → Int) → Int → Int → Int → Prop) (r_s_above : rr32 s_above) (r_s_below : rr32 s_below) (r_t_lesser : rr32 t_lesser) (r_t_size : r32 t_size) (r_t_listedP : r32 t_listedP) (r_t_listedQ : r32 t_listedQ) (r_l1 : r32 l1) (h : wp_X7_pairs Q s_above s_below t_lesser t_size t_listedP t_listedQ l1) : Ct l D cI cJ zt yX7_pairs cX7_pairs 2 (some .int) 3 0 0 [.ref hX7, .int (i32 l1)] [(hX7, .inr (6, [.ref aX7_above, .ref aX7_below, .ref hX3, .ref hX2, .ref hX1, .ref hX6, .ref hX0, .ref hX5])), (hX5, .inr (4, [.ref aX5_lesser, .ref aX5_divisors, .int (i32 t_divisorsSize), .int (i32 t_size), .int (i32 t_listedP), .int (i32 t_listedQ)])), (aX7_above, aI cI 8 s_above), (aX7_below, aI cI 8 s_below), (aX5_lesser, aI cI 202 t_lesser)] (po_X7_pairs cI cJ hX7 aX7_above aX7_below hX3 hX2 hX1 hX6 hX0 hX5 aX5_lesser aX5_divisors t_divisorsSize s_above s_below Q) := by
  refine ct_of (by decide +kernel) (Nat.le_of_ble_eq_true rfl) (fun X hl hDD hcI hcJ hzt hR hF hnm g => ?_)
  subst hl; subst hDD; subst hcI; subst hcJ; subst hzt
  show Wat X 0 0 0 [(0, .ref hX7), (1, .int (i32 l1))] [] [(hX7, .inr (6, [.ref aX7_above, .ref aX7_below, .ref hX3, .ref hX2, .ref hX1, .ref hX6, .ref hX0, .ref hX5])), (hX5, .inr (4, [.ref aX5_lesser, .ref aX5_divisors, .int (i32 t_divisorsSize), .int (i32 t_size), .int (i32 t_listedP), .int (i32 t_listedQ)])), (aX7_above, aI X.cI 8 s_above), (aX7_below, aI X.cI 8 s_below), (aX5_lesser, aI X.cI 202 t_lesser)]
  replace g : Gd X cX7_pairs RX7 (some .int) 2 := g
  rw [wp_X7_pairs] at h
  refine q_iload_n g 1 1 rfl dX7_pairs_0 ?_
  refine q_callS (lev := 1) (mc := 0) (ms := 0) (As := [.int (i32 l1)]) g 64 (c_X7_isRegister X.l X.D X.cI X.cJ X.zt l1 _ r_l1 h) (wr := [(hX7, .inr (6, [.ref aX7_above, .ref aX7_below, .ref hX3, .ref hX2, .ref hX1, .ref hX6, .ref hX0, .ref hX5])), (hX5, .inr (4, [.ref aX5_lesser, .ref aX5_divisors, .int (i32 t_divisorsSize), .int (i32 t_size), .int (i32 t_listedP), .int (i32 t_listedQ)])), (aX7_above, aI X.cI 8 s_above), (aX7_below, aI X.cI 8 s_below), (aX5_lesser, aI X.cI 202 t_lesser)]) [] [0, 1, 2, 3, 4] rfl rfl rfl (by decide) (by decide) (by decide) wM_X7_64 wT_X7_isRegister wZ_X7 wC_X7_isRegister 1 rfl (by decide +kernel) (by rw [hR]; exact ⟨by show 1 + 1 ≤ 3; omega, by show 8 + (1 + 11) + 100 * 1 ≤ 100 * 3; omega⟩) (by rw [hR]; exact ⟨Nat.le_refl _, Nat.le_refl _⟩) (Nat.le_of_ble_eq_true rfl) rfl dX7_pairs_1 (fun rv w1 hq => ?_)
  obtain ⟨x1, rfl, rfl, rx1, h⟩ := hq
  show Wat X 0 0 4 [(0, .ref hX7), (1, .int (i32 l1))] [.int (i32 x1)] [(hX7, .inr (6, [.ref aX7_above, .ref aX7_below, .ref hX3, .ref hX2, .ref hX1, .ref hX6, .ref hX0, .ref hX5])), (hX5, .inr (4, [.ref aX5_lesser, .ref aX5_divisors, .int (i32 t_divisorsSize), .int (i32 t_size), .int (i32 t_listedP), .int (i32 t_listedQ)])), (aX7_above, aI X.cI 8 s_above), (aX7_below, aI X.cI 8 s_below), (aX5_lesser, aI X.cI 202 t_lesser)]
  refine q_if_ne g (5) 9 rx1 (by decide) dX7_pairs_4 (fun b4 => ?_) (fun b4 => ?_)
  · replace h := h.1 b4
    refine q_aload_n g 0 0 rfl dX7_pairs_9 ?_
    refine q_iload_n g 1 1 rfl dX7_pairs_10 ?_
    refine q_callV (lev := 2) (mc := 0) (ms := 0) g 91 (c_X7_isProper X.l X.D X.cI X.cJ X.zt hX7 aX7_above aX7_below hX3 hX2 hX1 hX6 hX0 hX5 s_above s_below l1 _ r_s_above r_s_below r_l1 h) (wr := [(hX5, .inr (4, [.ref aX5_lesser, .ref aX5_divisors, .int (i32 t_divisorsSize), .int (i32 t_size), .int (i32 t_listedP), .int (i32 t_listedQ)])), (aX5_lesser, aI X.cI 202 t_lesser)]) [0, 2, 3] [1, 4] rfl rfl rfl (by decide) (by decide) (by decide) (ci := 6) rfl rfl rfl wM_X7_91 wI_X7_isProper wS_X7_isProper wZ_X7 wC_X7_isProper 1 rfl (by decide +kernel) (by rw [hR]; exact ⟨by show 2 + 1 ≤ 3; omega, by show 8 + (2 + 11) + 100 * 2 ≤ 100 * 3; omega⟩) (by rw [hR]; exact ⟨Nat.le_refl _, Nat.le_refl _⟩) (Nat.le_of_ble_eq_true rfl) rfl dX7_pairs_11 (fun rv w1 hq => ?_)
    obtain ⟨x11, rfl, rfl, rx11, h⟩ := hq
    refine q_ws (ws' := [(hX7, .inr (6, [.ref aX7_above, .ref aX7_below, .ref hX3, .ref hX2, .ref hX1, .ref hX6, .ref hX0, .ref hX5])), (hX5, .inr (4, [.ref aX5_lesser, .ref aX5_divisors, .int (i32 t_divisorsSize), .int (i32 t_size), .int (i32 t_listedP), .int (i32 t_listedQ)])), (aX7_above, aI X.cI 8 s_above), (aX7_below, aI X.cI 8 s_below), (aX5_lesser, aI X.cI 202 t_lesser)]) [2, 0, 3, 4, 1] (by decide) rfl rfl ?_
    show Wat X 0 0 14 [(0, .ref hX7), (1, .int (i32 l1))] [.int (i32 x11)] [(hX7, .inr (6, [.ref aX7_above, .ref aX7_below, .ref hX3, .ref hX2, .ref hX1, .ref hX6, .ref hX0, .ref hX5])), (hX5, .inr (4, [.ref aX5_lesser, .ref aX5_divisors, .int (i32 t_divisorsSize), .int (i32 t_size), .int (i32 t_listedP), .int (i32 t_listedQ)])), (aX7_above, aI X.cI 8 s_above), (aX7_below, aI X.cI 8 s_below), (aX5_lesser, aI X.cI 202 t_lesser)]
    refine q_if_eq g (15) 29 rx11 (by decide) dX7_pairs_14 (fun b14 => ?_) (fun b14 => ?_)
    · replace h := h.1 b14
      refine q_lv (lv' := []) [] rfl ?_
      exact s_X7_pairs_29 g hR hX7 aX7_above aX7_below hX3 hX2 hX1 hX6 hX0 hX5 aX5_lesser aX5_divisors t_divisorsSize s_above s_below r_s_above r_s_below Q hF t_lesser t_size t_listedP t_listedQ r_t_lesser r_t_size r_t_listedP r_t_listedQ h
    replace h := h.2 b14
    refine q_aload_n g 0 0 rfl dX7_pairs_17 ?_
    refine q_get (C := RX7) (T := TX7) (N := 8) g 13 inX7 0 1 rfl rfl (by decide) wF_X7_13 rfl dX7_pairs_18 ?_
    refine q_iload_n g 1 1 rfl dX7_pairs_21 ?_
    obtain ⟨c22, h⟩ := h
    obtain ⟨e22, h⟩ := h
    refine q_iald g 3 rfl c22 e22 (by decide) dX7_pairs_22 ?_
    refine q_sipush g (5000) (by decide) (by decide) dX7_pairs_23 ?_
    refine q_icmp_le g (6) 32 (r_s_below _) (r32_lit _ (by decide)) (by decide) dX7_pairs_26 (fun b26 => ?_) (fun b26 => ?_)
    · replace h := h.1 b26
      refine q_aload_n g 0 0 rfl dX7_pairs_32 ?_
      refine q_get (C := RX7) (T := TX7) (N := 8) g 54 inX7 0 7 rfl rfl (by decide) wF_X7_54 rfl dX7_pairs_33 ?_
      refine q_aload_n g 0 0 rfl dX7_pairs_36 ?_
      refine q_get (C := RX7) (T := TX7) (N := 8) g 9 inX7 0 0 rfl rfl (by decide) wF_X7_9 rfl dX7_pairs_37 ?_
      refine q_iload_n g 1 1 rfl dX7_pairs_40 ?_
      obtain ⟨c41, h⟩ := h
      obtain ⟨e41, h⟩ := h
      refine q_iald g 2 rfl c41 e41 (by decide) dX7_pairs_41 ?_
      refine q_aload_n g 0 0 rfl dX7_pairs_42 ?_
      refine q_get (C := RX7) (T := TX7) (N := 8) g 13 inX7 0 1 rfl rfl (by decide) wF_X7_13 rfl dX7_pairs_43 ?_
      refine q_iload_n g 1 1 rfl dX7_pairs_46 ?_
      obtain ⟨c47, h⟩ := h
      obtain ⟨e47, h⟩ := h
      refine q_iald g 3 rfl c47 e47 (by decide) dX7_pairs_47 ?_
      refine q_callV (lev := 2) (mc := 0) (ms := 0) g 158 (c_X5_list X.l X.D X.cI X.cJ X.zt hX5 aX5_lesser aX5_divisors t_divisorsSize t_size t_listedP t_listedQ t_lesser (s_above l1) (s_below l1) _ r_t_lesser r_t_size r_t_listedP r_t_listedQ (r_s_above _) (r_s_below _) h) (wr := [(hX7, .inr (6, [.ref aX7_above, .ref aX7_below, .ref hX3, .ref hX2, .ref hX1, .ref hX6, .ref hX0, .ref hX5])), (aX7_above, aI X.cI 8 s_above), (aX7_below, aI X.cI 8 s_below)]) [1, 4] [0, 2, 3] rfl rfl rfl (by decide) (by decide) (by decide) (ci := 4) rfl rfl rfl wM_X7_158 wI_X5_list wS_X5_list wZ_X5 wC_X5_list 2 rfl (by decide +kernel) (by rw [hR]; exact ⟨by show 2 + 1 ≤ 3; omega, by show 8 + (3 + 11) + 100 * 2 ≤ 100 * 3; omega⟩) (by rw [hR]; exact ⟨Nat.le_refl _, Nat.le_refl _⟩) (Nat.le_of_ble_eq_true rfl) rfl dX7_pairs_48 (fun rv w1 hq => ?_)
      obtain ⟨x48, t_lesser_48, t_size_48, t_listedP_48, t_listedQ_48, rfl, rfl, rx48, rt_lesser_48, rt_size_48, rt_listedP_48, rt_listedQ_48, h⟩ := hq
      refine q_ws (ws' := [(hX7, .inr (6, [.ref aX7_above, .ref aX7_below, .ref hX3, .ref hX2, .ref hX1, .ref hX6, .ref hX0, .ref hX5])), (hX5, .inr (4, [.ref aX5_lesser, .ref aX5_divisors, .int (i32 t_divisorsSize), .int (i32 t_size_48), .int (i32 t_listedP_48), .int (i32 t_listedQ_48)])), (aX7_above, aI X.cI 8 s_above), (aX7_below, aI X.cI 8 s_below), (aX5_lesser, aI X.cI 202 t_lesser_48)]) [0, 3, 1, 2, 4] (by decide) rfl rfl ?_
      show Wat X 0 0 51 [(0, .ref hX7), (1, .int (i32 l1))] [.int (i32 x48)] [(hX7, .inr (6, [.ref aX7_above, .ref aX7_below, .ref hX3, .ref hX2, .ref hX1, .ref hX6, .ref hX0, .ref hX5])), (hX5, .inr (4, [.ref aX5_lesser, .ref aX5_divisors, .int (i32 t_divisorsSize), .int (i32 t_size_48), .int (i32 t_listedP_48), .int (i32 t_listedQ_48)])), (aX7_above, aI X.cI 8 s_above), (aX7_below, aI X.cI 8 s_below), (aX5_lesser, aI X.cI 202 t_lesser_48)]
      exact q_iret g hF ⟨x48, t_lesser_48, t_size_48, t_listedP_48, t_listedQ_48, rfl, rfl, rx48, rt_lesser_48, rt_size_48, rt_listedP_48, rt_listedQ_48, h⟩ dX7_pairs_51
    replace h := h.2 b26
    refine q_lv (lv' := []) [] rfl ?_
    exact s_X7_pairs_29 g hR hX7 aX7_above aX7_below hX3 hX2 hX1 hX6 hX0 hX5 aX5_lesser aX5_divisors t_divisorsSize s_above s_below r_s_above r_s_below Q hF t_lesser t_size t_listedP t_listedQ r_t_lesser r_t_size r_t_listedP r_t_listedQ h
  replace h := h.2 b4
  refine q_iconst g (-1) dX7_pairs_7 ?_
  exact q_iret g hF ⟨(-1), t_lesser, t_size, t_listedP, t_listedQ, rfl, rfl, (r32_lit _ (by decide)), r_t_lesser, r_t_size, r_t_listedP, r_t_listedQ, h⟩ dX7_pairs_8
theorem dX7_reckon_0 : decode cX7_reckon 0 = .ok (.iload_n 1, 1) := by decide +kernel
theorem dX7_reckon_1 : decode cX7_reckon 1 = .ok (.invokestatic 64, 3) := by decide +kernel
theorem dX7_reckon_4 : decode cX7_reckon 4 = .ok (.ifCond .eq 27, 3) := by decide +kernel
theorem dX7_reckon_7 : decode cX7_reckon 7 = .ok (.iload_n 2, 1) := by decide +kernel
theorem dX7_reckon_8 : decode cX7_reckon 8 = .ok (.ifCond .lt 23, 3) := by decide +kernel
theorem dX7_reckon_11 : decode cX7_reckon 11 = .ok (.iload_n 2, 1) := by decide +kernel
theorem dX7_reckon_12 : decode cX7_reckon 12 = .ok (.iconst 3, 1) := by decide +kernel
theorem dX7_reckon_13 : decode cX7_reckon 13 = .ok (.if_icmp .gt 18, 3) := by decide +kernel
theorem dX7_reckon_16 : decode cX7_reckon 16 = .ok (.iload_n 3, 1) := by decide +kernel
theorem dX7_reckon_17 : decode cX7_reckon 17 = .ok (.invokestatic 64, 3) := by decide +kernel
theorem dX7_reckon_20 : decode cX7_reckon 20 = .ok (.ifCond .eq 11, 3) := by decide +kernel
theorem dX7_reckon_23 : decode cX7_reckon 23 = .ok (.iload 4, 2) := by decide +kernel
theorem dX7_reckon_25 : decode cX7_reckon 25 = .ok (.invokestatic 64, 3) := by decide +kernel
theorem dX7_reckon_28 : decode cX7_reckon 28 = .ok (.ifCond .ne 5, 3) := by decide +kernel
theorem dX7_reckon_31 : decode cX7_reckon 31 = .ok (.iconst (-1), 1) := by decide +kernel
theorem dX7_reckon_32 : decode cX7_reckon 32 = .ok (.ireturn, 1) := by decide +kernel
theorem dX7_reckon_33 : decode cX7_reckon 33 = .ok (.aload_n 0, 1) := by decide +kernel
theorem dX7_reckon_34 : decode cX7_reckon 34 = .ok (.getfield 9, 3) := by decide +kernel
theorem dX7_reckon_37 : decode cX7_reckon 37 = .ok (.iload_n 3, 1) := by decide +kernel
theorem dX7_reckon_38 : decode cX7_reckon 38 = .ok (.iaload, 1) := by decide +kernel
theorem dX7_reckon_39 : decode cX7_reckon 39 = .ok (.i2l, 1) := by decide +kernel
theorem dX7_reckon_40 : decode cX7_reckon 40 = .ok (.lstore 5, 2) := by decide +kernel
theorem dX7_reckon_42 : decode cX7_reckon 42 = .ok (.aload_n 0, 1) := by decide +kernel
theorem dX7_reckon_43 : decode cX7_reckon 43 = .ok (.getfield 13, 3) := by decide +kernel
theorem dX7_reckon_46 : decode cX7_reckon 46 = .ok (.iload_n 3, 1) := by decide +kernel
theorem dX7_reckon_47 : decode cX7_reckon 47 = .ok (.iaload, 1) := by decide +kernel
theorem dX7_reckon_48 : decode cX7_reckon 48 = .ok (.i2l, 1) := by decide +kernel
theorem dX7_reckon_49 : decode cX7_reckon 49 = .ok (.lstore 7, 2) := by decide +kernel
theorem dX7_reckon_51 : decode cX7_reckon 51 = .ok (.aload_n 0, 1) := by decide +kernel
theorem dX7_reckon_52 : decode cX7_reckon 52 = .ok (.getfield 9, 3) := by decide +kernel
theorem dX7_reckon_55 : decode cX7_reckon 55 = .ok (.iload 4, 2) := by decide +kernel
theorem dX7_reckon_57 : decode cX7_reckon 57 = .ok (.iaload, 1) := by decide +kernel
theorem dX7_reckon_58 : decode cX7_reckon 58 = .ok (.i2l, 1) := by decide +kernel
theorem dX7_reckon_59 : decode cX7_reckon 59 = .ok (.lstore 9, 2) := by decide +kernel
theorem dX7_reckon_61 : decode cX7_reckon 61 = .ok (.aload_n 0, 1) := by decide +kernel
theorem dX7_reckon_62 : decode cX7_reckon 62 = .ok (.getfield 13, 3) := by decide +kernel
theorem dX7_reckon_65 : decode cX7_reckon 65 = .ok (.iload 4, 2) := by decide +kernel
theorem dX7_reckon_67 : decode cX7_reckon 67 = .ok (.iaload, 1) := by decide +kernel
theorem dX7_reckon_68 : decode cX7_reckon 68 = .ok (.i2l, 1) := by decide +kernel
theorem dX7_reckon_69 : decode cX7_reckon 69 = .ok (.lstore 11, 2) := by decide +kernel
theorem dX7_reckon_71 : decode cX7_reckon 71 = .ok (.iload_n 2, 1) := by decide +kernel
theorem dX7_reckon_72 : decode cX7_reckon 72 = .ok (.tableswitch 88 0 2 #[28, 50, 72], 28) := by decide +kernel
theorem dX7_reckon_100 : decode cX7_reckon 100 = .ok (.aload_n 0, 1) := by decide +kernel
theorem dX7_reckon_101 : decode cX7_reckon 101 = .ok (.iload_n 1, 1) := by decide +kernel
theorem dX7_reckon_102 : decode cX7_reckon 102 = .ok (.lload 5, 2) := by decide +kernel
theorem dX7_reckon_104 : decode cX7_reckon 104 = .ok (.lload 11, 2) := by decide +kernel
theorem dX7_reckon_106 : decode cX7_reckon 106 = .ok (.lmul, 1) := by decide +kernel
theorem dX7_reckon_107 : decode cX7_reckon 107 = .ok (.lload 9, 2) := by decide +kernel
theorem dX7_reckon_109 : decode cX7_reckon 109 = .ok (.lload 7, 2) := by decide +kernel
theorem dX7_reckon_111 : decode cX7_reckon 111 = .ok (.lmul, 1) := by decide +kernel
theorem dX7_reckon_112 : decode cX7_reckon 112 = .ok (.ladd, 1) := by decide +kernel
theorem dX7_reckon_113 : decode cX7_reckon 113 = .ok (.lload 7, 2) := by decide +kernel
theorem dX7_reckon_115 : decode cX7_reckon 115 = .ok (.lload 11, 2) := by decide +kernel
theorem dX7_reckon_117 : decode cX7_reckon 117 = .ok (.lmul, 1) := by decide +kernel
theorem dX7_reckon_118 : decode cX7_reckon 118 = .ok (.invokevirtual 69, 3) := by decide +kernel
theorem dX7_reckon_121 : decode cX7_reckon 121 = .ok (.ireturn, 1) := by decide +kernel
theorem dX7_reckon_122 : decode cX7_reckon 122 = .ok (.aload_n 0, 1) := by decide +kernel
theorem dX7_reckon_123 : decode cX7_reckon 123 = .ok (.iload_n 1, 1) := by decide +kernel
theorem dX7_reckon_124 : decode cX7_reckon 124 = .ok (.lload 5, 2) := by decide +kernel
theorem dX7_reckon_126 : decode cX7_reckon 126 = .ok (.lload 11, 2) := by decide +kernel
theorem dX7_reckon_128 : decode cX7_reckon 128 = .ok (.lmul, 1) := by decide +kernel
theorem dX7_reckon_129 : decode cX7_reckon 129 = .ok (.lload 9, 2) := by decide +kernel
theorem dX7_reckon_131 : decode cX7_reckon 131 = .ok (.lload 7, 2) := by decide +kernel
theorem dX7_reckon_133 : decode cX7_reckon 133 = .ok (.lmul, 1) := by decide +kernel
theorem dX7_reckon_134 : decode cX7_reckon 134 = .ok (.lsub, 1) := by decide +kernel
theorem dX7_reckon_135 : decode cX7_reckon 135 = .ok (.lload 7, 2) := by decide +kernel
theorem dX7_reckon_137 : decode cX7_reckon 137 = .ok (.lload 11, 2) := by decide +kernel
theorem dX7_reckon_139 : decode cX7_reckon 139 = .ok (.lmul, 1) := by decide +kernel
theorem dX7_reckon_140 : decode cX7_reckon 140 = .ok (.invokevirtual 69, 3) := by decide +kernel
theorem dX7_reckon_143 : decode cX7_reckon 143 = .ok (.ireturn, 1) := by decide +kernel
theorem dX7_reckon_144 : decode cX7_reckon 144 = .ok (.aload_n 0, 1) := by decide +kernel
theorem dX7_reckon_145 : decode cX7_reckon 145 = .ok (.iload_n 1, 1) := by decide +kernel
theorem dX7_reckon_146 : decode cX7_reckon 146 = .ok (.lload 5, 2) := by decide +kernel
theorem dX7_reckon_148 : decode cX7_reckon 148 = .ok (.lload 9, 2) := by decide +kernel
theorem dX7_reckon_150 : decode cX7_reckon 150 = .ok (.lmul, 1) := by decide +kernel
theorem dX7_reckon_151 : decode cX7_reckon 151 = .ok (.lload 7, 2) := by decide +kernel
theorem dX7_reckon_153 : decode cX7_reckon 153 = .ok (.lload 11, 2) := by decide +kernel
theorem dX7_reckon_155 : decode cX7_reckon 155 = .ok (.lmul, 1) := by decide +kernel
theorem dX7_reckon_156 : decode cX7_reckon 156 = .ok (.invokevirtual 69, 3) := by decide +kernel
theorem dX7_reckon_159 : decode cX7_reckon 159 = .ok (.ireturn, 1) := by decide +kernel
theorem dX7_reckon_160 : decode cX7_reckon 160 = .ok (.aload_n 0, 1) := by decide +kernel
theorem dX7_reckon_161 : decode cX7_reckon 161 = .ok (.iload_n 1, 1) := by decide +kernel
theorem dX7_reckon_162 : decode cX7_reckon 162 = .ok (.lload 5, 2) := by decide +kernel
theorem dX7_reckon_164 : decode cX7_reckon 164 = .ok (.lload 11, 2) := by decide +kernel
theorem dX7_reckon_166 : decode cX7_reckon 166 = .ok (.lmul, 1) := by decide +kernel
theorem dX7_reckon_167 : decode cX7_reckon 167 = .ok (.lload 7, 2) := by decide +kernel
theorem dX7_reckon_169 : decode cX7_reckon 169 = .ok (.lload 9, 2) := by decide +kernel
theorem dX7_reckon_171 : decode cX7_reckon 171 = .ok (.lmul, 1) := by decide +kernel
theorem dX7_reckon_172 : decode cX7_reckon 172 = .ok (.invokevirtual 69, 3) := by decide +kernel
theorem dX7_reckon_175 : decode cX7_reckon 175 = .ok (.ireturn, 1) := by decide +kernel
abbrev po_X7_reckon (cI cJ : ClassId) (hX7 : Nat) (aX7_above : Nat) (aX7_below : Nat) (hX3 : Nat) (hX2 : Nat) (hX1 : Nat) (hX6 : Nat) (hX0 : Nat) (hX5 : Nat) (Q : Int → (Int → Int) → (Int → Int) → Prop) : Option Value → va_W → Prop := fun rv w1 => ∃ (r0 : Int) (s_above : Int → Int) (s_below : Int → Int), rv = some (.int (i32 r0)) ∧ w1 = [(hX7, .inr (6, [.ref aX7_above, .ref aX7_below, .ref hX3, .ref hX2, .ref hX1, .ref hX6, .ref hX0, .ref hX5])), (aX7_above, aI cI 8 s_above), (aX7_below, aI cI 8 s_below)] ∧ r32 r0 ∧ rr32 s_above ∧ rr32 s_below ∧ Q r0 s_above s_below
def wp_X7_reckon_31 (Q : Int → (Int → Int) → (Int → Int) → Prop) (s_above : Int → Int) (s_below : Int → Int) : Prop := Q (-1) s_above s_below
set_option maxHeartbeats 4000000 in
set_option maxRecDepth 100000 in
theorem s_X7_reckon_31 {X : Cx} (g : Gd X cX7_reckon RX7 (some .int) 13) (hR : X.R = rmL 4 0 0) (hX7 : Nat) (aX7_above : Nat) (aX7_below : Nat) (hX3 : Nat) (hX2 : Nat) (hX1 : Nat) (hX6 : Nat) (hX0 : Nat) (hX5 : Nat) (Q : Int → (Int → Int) → (Int → Int) → Prop) (hF : FQ X 0 0 (po_X7_reckon X.cI X.cJ hX7 aX7_above aX7_below hX3 hX2 hX1 hX6 hX0 hX5 Q)) : ∀ (s_above : Int → Int) (s_below : Int → Int), rr32 s_above → rr32 s_below → wp_X7_reckon_31 Q s_above s_below → Wat X 0 0 31 [] [] [(hX7, .inr (6, [.ref aX7_above, .ref aX7_below, .ref hX3, .ref hX2, .ref hX1, .ref hX6, .ref hX0, .ref hX5])), (aX7_above, aI X.cI 8 s_above), (aX7_below, aI X.cI 8 s_below)] := by
  intro s_above s_below r_s_above r_s_below h
  rw [wp_X7_reckon_31] at h
  refine q_iconst g (-1) dX7_reckon_31 ?_
  exact q_iret g hF ⟨(-1), s_above, s_below, rfl, rfl, (r32_lit _ (by decide)), r_s_above, r_s_below, h⟩ dX7_reckon_32
def wp_X7_reckon (Q : Int → (Int → Int) → (Int → Int) → Prop) (s_above : Int → Int) (s_below : Int → Int) (l1 : Int) (l2 : Int) (l3 : Int) (l4 : Int) : Prop := wp_X7_isRegister (fun (x1 : Int) => ((x1 = 0 → wp_X7_reckon_31 Q s_above s_below) ∧
  (¬ (x1 = 0) → ((l2 < 0 → wp_X7_reckon_31 Q s_above s_below) ∧
  (¬ (l2 < 0) → ((3 < l2 → wp_X7_reckon_31 Q s_above s_below) ∧
  (¬ (3 < l2) → wp_X7_isRegister (fun (x17 : Int) => ((x17 = 0 → wp_X7_reckon_31 Q s_above s_below) ∧
  (¬ (x17 = 0) → wp_X7_isRegister (fun (x25 : Int) => ((¬ x25 = 0 → (0 ≤ l3 ∧ l3 < 8 ∧ ∀ x40 : Int, x40 = (s_above l3) → 0 ≤ l3 ∧ l3 < 8 ∧ ∀ x49 : Int, x49 = (s_below l3) → 0 ≤ l4 ∧ l4 < 8 ∧ ∀ x59 : Int, x59 = (s_above l4) → 0 ≤ l4 ∧ l4 < 8 ∧ ∀ x69 : Int, x69 = (s_below l4) → ((l2 < 0 ∨ 2 < l2 → (r64 (x40 * x69) ∧ r64 (x49 * x59) ∧ wp_X7_put (fun (x172 : Int) (s_above_172 : Int → Int) (s_below_172 : Int → Int) => Q x172 s_above_172 s_below_172) s_above s_below l1 (x40 * x69) (x49 * x59))) ∧
  (l2 = 0 → (r64 (x40 * x69) ∧ r64 (x59 * x49) ∧ r64 ((x40 * x69) + (x59 * x49)) ∧ r64 (x49 * x69) ∧ wp_X7_put (fun (x118 : Int) (s_above_118 : Int → Int) (s_below_118 : Int → Int) => Q x118 s_above_118 s_below_118) s_above s_below l1 ((x40 * x69) + (x59 * x49)) (x49 * x69))) ∧
  (l2 = 1 → (r64 (x40 * x69) ∧ r64 (x59 * x49) ∧ r64 ((x40 * x69) - (x59 * x49)) ∧ r64 (x49 * x69) ∧ wp_X7_put (fun (x140 : Int) (s_above_140 : Int → Int) (s_below_140 : Int → Int) => Q x140 s_above_140 s_below_140) s_above s_below l1 ((x40 * x69) - (x59 * x49)) (x49 * x69))) ∧
  (l2 = 2 → (r64 (x40 * x59) ∧ r64 (x49 * x69) ∧ wp_X7_put (fun (x156 : Int) (s_above_156 : Int → Int) (s_below_156 : Int → Int) => Q x156 s_above_156 s_below_156) s_above s_below l1 (x40 * x59) (x49 * x69)))))) ∧
  (x25 = 0 → wp_X7_reckon_31 Q s_above s_below))) l4))) l3))))))) l1
set_option maxHeartbeats 4000000 in
set_option maxRecDepth 100000 in
theorem c_X7_reckon (l : Launch) (D : va_G) (cI cJ : ClassId) (zt : Nat) (hX7 : Nat) (aX7_above : Nat) (aX7_below : Nat) (hX3 : Nat) (hX2 : Nat) (hX1 : Nat) (hX6 : Nat) (hX0 : Nat) (hX5 : Nat) (s_above : Int → Int) (s_below : Int → Int) (l1 : Int) (l2 : Int) (l3 : Int) (l4 : Int) (Q : Int → (Int → Int) → (Int → Int) → Prop) (r_s_above : rr32 s_above) (r_s_below : rr32 s_below) (r_l1 : r32 l1) (r_l2 : r32 l2) (r_l3 : r32 l3) (r_l4 : r32 l4) (h : wp_X7_reckon Q s_above s_below l1 l2 l3 l4) : Ct l D cI cJ zt yX7_reckon cX7_reckon 13 (some .int) 4 0 0 [.ref hX7, .int (i32 l1), .int (i32 l2), .int (i32 l3), .int (i32 l4)] [(hX7, .inr (6, [.ref aX7_above, .ref aX7_below, .ref hX3, .ref hX2, .ref hX1, .ref hX6, .ref hX0, .ref hX5])), (aX7_above, aI cI 8 s_above), (aX7_below, aI cI 8 s_below)] (po_X7_reckon cI cJ hX7 aX7_above aX7_below hX3 hX2 hX1 hX6 hX0 hX5 Q) := by
  refine ct_of (by decide +kernel) (Nat.le_of_ble_eq_true rfl) (fun X hl hDD hcI hcJ hzt hR hF hnm g => ?_)
  subst hl; subst hDD; subst hcI; subst hcJ; subst hzt
  show Wat X 0 0 0 [(0, .ref hX7), (1, .int (i32 l1)), (2, .int (i32 l2)), (3, .int (i32 l3)), (4, .int (i32 l4))] [] [(hX7, .inr (6, [.ref aX7_above, .ref aX7_below, .ref hX3, .ref hX2, .ref hX1, .ref hX6, .ref hX0, .ref hX5])), (aX7_above, aI X.cI 8 s_above), (aX7_below, aI X.cI 8 s_below)]
  replace g : Gd X cX7_reckon RX7 (some .int) 13 := g
  rw [wp_X7_reckon] at h
  refine q_iload_n g 1 1 rfl dX7_reckon_0 ?_
  refine q_callS (lev := 1) (mc := 0) (ms := 0) (As := [.int (i32 l1)]) g 64 (c_X7_isRegister X.l X.D X.cI X.cJ X.zt l1 _ r_l1 h) (wr := [(hX7, .inr (6, [.ref aX7_above, .ref aX7_below, .ref hX3, .ref hX2, .ref hX1, .ref hX6, .ref hX0, .ref hX5])), (aX7_above, aI X.cI 8 s_above), (aX7_below, aI X.cI 8 s_below)]) [] [0, 1, 2] rfl rfl rfl (by decide) (by decide) (by decide) wM_X7_64 wT_X7_isRegister wZ_X7 wC_X7_isRegister 1 rfl (by decide +kernel) (by rw [hR]; exact ⟨by show 1 + 1 ≤ 4; omega, by show 8 + (1 + 11) + 100 * 1 ≤ 100 * 4; omega⟩) (by rw [hR]; exact ⟨Nat.le_refl _, Nat.le_refl _⟩) (Nat.le_of_ble_eq_true rfl) rfl dX7_reckon_1 (fun rv w1 hq => ?_)
  obtain ⟨x1, rfl, rfl, rx1, h⟩ := hq
  show Wat X 0 0 4 [(0, .ref hX7), (1, .int (i32 l1)), (2, .int (i32 l2)), (3, .int (i32 l3)), (4, .int (i32 l4))] [.int (i32 x1)] [(hX7, .inr (6, [.ref aX7_above, .ref aX7_below, .ref hX3, .ref hX2, .ref hX1, .ref hX6, .ref hX0, .ref hX5])), (aX7_above, aI X.cI 8 s_above), (aX7_below, aI X.cI 8 s_below)]
  refine q_if_eq g (27) 31 rx1 (by decide) dX7_reckon_4 (fun b4 => ?_) (fun b4 => ?_)
  · replace h := h.1 b4
    refine q_lv (lv' := []) [] rfl ?_
    exact s_X7_reckon_31 g hR hX7 aX7_above aX7_below hX3 hX2 hX1 hX6 hX0 hX5 Q hF s_above s_below r_s_above r_s_below h
  replace h := h.2 b4
  refine q_iload_n g 2 2 rfl dX7_reckon_7 ?_
  refine q_if_lt g (23) 31 r_l2 (by decide) dX7_reckon_8 (fun b8 => ?_) (fun b8 => ?_)
  · replace h := h.1 b8
    refine q_lv (lv' := []) [] rfl ?_
    exact s_X7_reckon_31 g hR hX7 aX7_above aX7_below hX3 hX2 hX1 hX6 hX0 hX5 Q hF s_above s_below r_s_above r_s_below h
  replace h := h.2 b8
  refine q_iload_n g 2 2 rfl dX7_reckon_11 ?_
  refine q_iconst g (3) dX7_reckon_12 ?_
  refine q_icmp_gt g (18) 31 r_l2 (r32_lit _ (by decide)) (by decide) dX7_reckon_13 (fun b13 => ?_) (fun b13 => ?_)
  · replace h := h.1 b13
    refine q_lv (lv' := []) [] rfl ?_
    exact s_X7_reckon_31 g hR hX7 aX7_above aX7_below hX3 hX2 hX1 hX6 hX0 hX5 Q hF s_above s_below r_s_above r_s_below h
  replace h := h.2 b13
  refine q_iload_n g 3 3 rfl dX7_reckon_16 ?_
  refine q_callS (lev := 1) (mc := 0) (ms := 0) (As := [.int (i32 l3)]) g 64 (c_X7_isRegister X.l X.D X.cI X.cJ X.zt l3 _ r_l3 h) (wr := [(hX7, .inr (6, [.ref aX7_above, .ref aX7_below, .ref hX3, .ref hX2, .ref hX1, .ref hX6, .ref hX0, .ref hX5])), (aX7_above, aI X.cI 8 s_above), (aX7_below, aI X.cI 8 s_below)]) [] [0, 1, 2] rfl rfl rfl (by decide) (by decide) (by decide) wM_X7_64 wT_X7_isRegister wZ_X7 wC_X7_isRegister 1 rfl (by decide +kernel) (by rw [hR]; exact ⟨by show 1 + 1 ≤ 4; omega, by show 8 + (1 + 11) + 100 * 1 ≤ 100 * 4; omega⟩) (by rw [hR]; exact ⟨Nat.le_refl _, Nat.le_refl _⟩) (Nat.le_of_ble_eq_true rfl) rfl dX7_reckon_17 (fun rv w1 hq => ?_)
  obtain ⟨x17, rfl, rfl, rx17, h⟩ := hq
  show Wat X 0 0 20 [(0, .ref hX7), (1, .int (i32 l1)), (2, .int (i32 l2)), (3, .int (i32 l3)), (4, .int (i32 l4))] [.int (i32 x17)] [(hX7, .inr (6, [.ref aX7_above, .ref aX7_below, .ref hX3, .ref hX2, .ref hX1, .ref hX6, .ref hX0, .ref hX5])), (aX7_above, aI X.cI 8 s_above), (aX7_below, aI X.cI 8 s_below)]
  refine q_if_eq g (11) 31 rx17 (by decide) dX7_reckon_20 (fun b20 => ?_) (fun b20 => ?_)
  · replace h := h.1 b20
    refine q_lv (lv' := []) [] rfl ?_
    exact s_X7_reckon_31 g hR hX7 aX7_above aX7_below hX3 hX2 hX1 hX6 hX0 hX5 Q hF s_above s_below r_s_above r_s_below h
  replace h := h.2 b20
  refine q_iload g 4 4 rfl dX7_reckon_23 ?_
  refine q_callS (lev := 1) (mc := 0) (ms := 0) (As := [.int (i32 l4)]) g 64 (c_X7_isRegister X.l X.D X.cI X.cJ X.zt l4 _ r_l4 h) (wr := [(hX7, .inr (6, [.ref aX7_above, .ref aX7_below, .ref hX3, .ref hX2, .ref hX1, .ref hX6, .ref hX0, .ref hX5])), (aX7_above, aI X.cI 8 s_above), (aX7_below, aI X.cI 8 s_below)]) [] [0, 1, 2] rfl rfl rfl (by decide) (by decide) (by decide) wM_X7_64 wT_X7_isRegister wZ_X7 wC_X7_isRegister 1 rfl (by decide +kernel) (by rw [hR]; exact ⟨by show 1 + 1 ≤ 4; omega, by show 8 + (1 + 11) + 100 * 1 ≤ 100 * 4; omega⟩) (by rw [hR]; exact ⟨Nat.le_refl _, Nat.le_refl _⟩) (Nat.le_of_ble_eq_true rfl) rfl dX7_reckon_25 (fun rv w1 hq => ?_)
  obtain ⟨x25, rfl, rfl, rx25, h⟩ := hq
  show Wat X 0 0 28 [(0, .ref hX7), (1, .int (i32 l1)), (2, .int (i32 l2)), (3, .int (i32 l3)), (4, .int (i32 l4))] [.int (i32 x25)] [(hX7, .inr (6, [.ref aX7_above, .ref aX7_below, .ref hX3, .ref hX2, .ref hX1, .ref hX6, .ref hX0, .ref hX5])), (aX7_above, aI X.cI 8 s_above), (aX7_below, aI X.cI 8 s_below)]
  refine q_if_ne g (5) 33 rx25 (by decide) dX7_reckon_28 (fun b28 => ?_) (fun b28 => ?_)
  · replace h := h.1 b28
    refine q_aload_n g 0 0 rfl dX7_reckon_33 ?_
    refine q_get (C := RX7) (T := TX7) (N := 8) g 9 inX7 0 0 rfl rfl (by decide) wF_X7_9 rfl dX7_reckon_34 ?_
    refine q_iload_n g 3 3 rfl dX7_reckon_37 ?_
    obtain ⟨c38, h⟩ := h
    obtain ⟨e38, h⟩ := h
    refine q_iald g 1 rfl c38 e38 (by decide) dX7_reckon_38 ?_
    refine q_i2l g (r_s_above _) dX7_reckon_39 ?_
    refine q_topl (r32_64 (r_s_above _)) (fun x40 ex40 rx40 => ?_)
    replace h := h x40 ex40
    refine q_lstore (lv' := [(5, .long (i64 x40)), (0, .ref hX7), (1, .int (i32 l1)), (2, .int (i32 l2)), (3, .int (i32 l3)), (4, .int (i32 l4))]) g 5   (by decide) rfl dX7_reckon_40 ?_
    refine q_aload_n g 0 1 rfl dX7_reckon_42 ?_
    refine q_get (C := RX7) (T := TX7) (N := 8) g 13 inX7 0 1 rfl rfl (by decide) wF_X7_13 rfl dX7_reckon_43 ?_
    refine q_iload_n g 3 4 rfl dX7_reckon_46 ?_
    obtain ⟨c47, h⟩ := h
    obtain ⟨e47, h⟩ := h
    refine q_iald g 2 rfl c47 e47 (by decide) dX7_reckon_47 ?_
    refine q_i2l g (r_s_below _) dX7_reckon_48 ?_
    refine q_topl (r32_64 (r_s_below _)) (fun x49 ex49 rx49 => ?_)
    replace h := h x49 ex49
    refine q_lstore (lv' := [(7, .long (i64 x49)), (5, .long (i64 x40)), (0, .ref hX7), (1, .int (i32 l1)), (2, .int (i32 l2)), (3, .int (i32 l3)), (4, .int (i32 l4))]) g 7   (by decide) rfl dX7_reckon_49 ?_
    refine q_aload_n g 0 2 rfl dX7_reckon_51 ?_
    refine q_get (C := RX7) (T := TX7) (N := 8) g 9 inX7 0 0 rfl rfl (by decide) wF_X7_9 rfl dX7_reckon_52 ?_
    refine q_iload g 4 6 rfl dX7_reckon_55 ?_
    obtain ⟨c57, h⟩ := h
    obtain ⟨e57, h⟩ := h
    refine q_iald g 1 rfl c57 e57 (by decide) dX7_reckon_57 ?_
    refine q_i2l g (r_s_above _) dX7_reckon_58 ?_
    refine q_topl (r32_64 (r_s_above _)) (fun x59 ex59 rx59 => ?_)
    replace h := h x59 ex59
    refine q_lstore (lv' := [(9, .long (i64 x59)), (7, .long (i64 x49)), (5, .long (i64 x40)), (0, .ref hX7), (1, .int (i32 l1)), (2, .int (i32 l2)), (3, .int (i32 l3)), (4, .int (i32 l4))]) g 9   (by decide) rfl dX7_reckon_59 ?_
    refine q_aload_n g 0 3 rfl dX7_reckon_61 ?_
    refine q_get (C := RX7) (T := TX7) (N := 8) g 13 inX7 0 1 rfl rfl (by decide) wF_X7_13 rfl dX7_reckon_62 ?_
    refine q_iload g 4 7 rfl dX7_reckon_65 ?_
    obtain ⟨c67, h⟩ := h
    obtain ⟨e67, h⟩ := h
    refine q_iald g 2 rfl c67 e67 (by decide) dX7_reckon_67 ?_
    refine q_i2l g (r_s_below _) dX7_reckon_68 ?_
    refine q_topl (r32_64 (r_s_below _)) (fun x69 ex69 rx69 => ?_)
    replace h := h x69 ex69
    refine q_lstore (lv' := [(11, .long (i64 x69)), (9, .long (i64 x59)), (7, .long (i64 x49)), (5, .long (i64 x40)), (0, .ref hX7), (1, .int (i32 l1)), (2, .int (i32 l2)), (3, .int (i32 l3)), (4, .int (i32 l4))]) g 11   (by decide) rfl dX7_reckon_69 ?_
    refine q_iload_n g 2 6 rfl dX7_reckon_71 ?_
    by_cases bo72 : l2 < 0 ∨ 2 < l2
    · replace h := h.1 bo72
      refine q_tabOut g 160 r_l2 bo72 (by decide) dX7_reckon_72 ?_
      refine q_aload_n g 0 4 rfl dX7_reckon_160 ?_
      refine q_iload_n g 1 5 rfl dX7_reckon_161 ?_
      refine q_lload g 5 3 rfl dX7_reckon_162 ?_
      refine q_lload g 11 0 rfl dX7_reckon_164 ?_
      obtain ⟨c166, h⟩ := h
      refine q_lmul g dX7_reckon_166 ?_
      refine q_lload g 7 2 rfl dX7_reckon_167 ?_
      refine q_lload g 9 1 rfl dX7_reckon_169 ?_
      obtain ⟨c171, h⟩ := h
      refine q_lmul g dX7_reckon_171 ?_
      refine q_callV (lev := 3) (mc := 0) (ms := 0) g 69 (c_X7_put X.l X.D X.cI X.cJ X.zt hX7 aX7_above aX7_below hX3 hX2 hX1 hX6 hX0 hX5 s_above s_below l1 (x40 * x69) (x49 * x59) _ r_s_above r_s_below r_l1 c166 c171 h) (wr := []) [0, 1, 2] [] rfl rfl rfl (by decide) (by decide) (by decide) (ci := 6) rfl rfl rfl wM_X7_69 wI_X7_put wS_X7_put wZ_X7 wC_X7_put 3 rfl (by decide +kernel) (by rw [hR]; exact ⟨by show 3 + 1 ≤ 4; omega, by show 8 + (8 + 11) + 100 * 3 ≤ 100 * 4; omega⟩) (by rw [hR]; exact ⟨Nat.le_refl _, Nat.le_refl _⟩) (Nat.le_of_ble_eq_true rfl) rfl dX7_reckon_172 (fun rv w1 hq => ?_)
      obtain ⟨x172, s_above_172, s_below_172, rfl, rfl, rx172, rs_above_172, rs_below_172, h⟩ := hq
      show Wat X 0 0 175 [(11, .long (i64 x69)), (9, .long (i64 x59)), (7, .long (i64 x49)), (5, .long (i64 x40)), (0, .ref hX7), (1, .int (i32 l1)), (2, .int (i32 l2)), (3, .int (i32 l3)), (4, .int (i32 l4))] [.int (i32 x172)] [(hX7, .inr (6, [.ref aX7_above, .ref aX7_below, .ref hX3, .ref hX2, .ref hX1, .ref hX6, .ref hX0, .ref hX5])), (aX7_above, aI X.cI 8 s_above_172), (aX7_below, aI X.cI 8 s_below_172)]
      exact q_iret g hF ⟨x172, s_above_172, s_below_172, rfl, rfl, rx172, rs_above_172, rs_below_172, h⟩ dX7_reckon_175
    replace h := h.2
    have bs72 : l2 = 0 ∨ l2 = 1 ∨ l2 = 2 := by omega
    rcases bs72 with bs72 | bs72
    · replace h := h.1 bs72
      refine q_tabIn g 100 0 r_l2 bs72 (by decide) (by decide) rfl (by decide) dX7_reckon_72 ?_
      refine q_aload_n g 0 4 rfl dX7_reckon_100 ?_
      refine q_iload_n g 1 5 rfl dX7_reckon_101 ?_
      refine q_lload g 5 3 rfl dX7_reckon_102 ?_
      refine q_lload g 11 0 rfl dX7_reckon_104 ?_
      obtain ⟨c106, h⟩ := h
      refine q_lmul g dX7_reckon_106 ?_
      refine q_lload g 9 1 rfl dX7_reckon_107 ?_
      refine q_lload g 7 2 rfl dX7_reckon_109 ?_
      obtain ⟨c111, h⟩ := h
      refine q_lmul g dX7_reckon_111 ?_
      obtain ⟨c112, h⟩ := h
      refine q_ladd g dX7_reckon_112 ?_
      refine q_lload g 7 2 rfl dX7_reckon_113 ?_
      refine q_lload g 11 0 rfl dX7_reckon_115 ?_
      obtain ⟨c117, h⟩ := h
      refine q_lmul g dX7_reckon_117 ?_
      refine q_callV (lev := 3) (mc := 0) (ms := 0) g 69 (c_X7_put X.l X.D X.cI X.cJ X.zt hX7 aX7_above aX7_below hX3 hX2 hX1 hX6 hX0 hX5 s_above s_below l1 ((x40 * x69) + (x59 * x49)) (x49 * x69) _ r_s_above r_s_below r_l1 c112 c117 h) (wr := []) [0, 1, 2] [] rfl rfl rfl (by decide) (by decide) (by decide) (ci := 6) rfl rfl rfl wM_X7_69 wI_X7_put wS_X7_put wZ_X7 wC_X7_put 3 rfl (by decide +kernel) (by rw [hR]; exact ⟨by show 3 + 1 ≤ 4; omega, by show 8 + (8 + 11) + 100 * 3 ≤ 100 * 4; omega⟩) (by rw [hR]; exact ⟨Nat.le_refl _, Nat.le_refl _⟩) (Nat.le_of_ble_eq_true rfl) rfl dX7_reckon_118 (fun rv w1 hq => ?_)
      obtain ⟨x118, s_above_118, s_below_118, rfl, rfl, rx118, rs_above_118, rs_below_118, h⟩ := hq
      show Wat X 0 0 121 [(11, .long (i64 x69)), (9, .long (i64 x59)), (7, .long (i64 x49)), (5, .long (i64 x40)), (0, .ref hX7), (1, .int (i32 l1)), (2, .int (i32 l2)), (3, .int (i32 l3)), (4, .int (i32 l4))] [.int (i32 x118)] [(hX7, .inr (6, [.ref aX7_above, .ref aX7_below, .ref hX3, .ref hX2, .ref hX1, .ref hX6, .ref hX0, .ref hX5])), (aX7_above, aI X.cI 8 s_above_118), (aX7_below, aI X.cI 8 s_below_118)]
      exact q_iret g hF ⟨x118, s_above_118, s_below_118, rfl, rfl, rx118, rs_above_118, rs_below_118, h⟩ dX7_reckon_121
    replace h := h.2
    rcases bs72 with bs72 | bs72
    · replace h := h.1 bs72
      refine q_tabIn g 122 1 r_l2 bs72 (by decide) (by decide) rfl (by decide) dX7_reckon_72 ?_
      refine q_aload_n g 0 4 rfl dX7_reckon_122 ?_
      refine q_iload_n g 1 5 rfl dX7_reckon_123 ?_
      refine q_lload g 5 3 rfl dX7_reckon_124 ?_
      refine q_lload g 11 0 rfl dX7_reckon_126 ?_
      obtain ⟨c128, h⟩ := h
      refine q_lmul g dX7_reckon_128 ?_
      refine q_lload g 9 1 rfl dX7_reckon_129 ?_
      refine q_lload g 7 2 rfl dX7_reckon_131 ?_
      obtain ⟨c133, h⟩ := h
      refine q_lmul g dX7_reckon_133 ?_
      obtain ⟨c134, h⟩ := h
      refine q_lsub g dX7_reckon_134 ?_
      refine q_lload g 7 2 rfl dX7_reckon_135 ?_
      refine q_lload g 11 0 rfl dX7_reckon_137 ?_
      obtain ⟨c139, h⟩ := h
      refine q_lmul g dX7_reckon_139 ?_
      refine q_callV (lev := 3) (mc := 0) (ms := 0) g 69 (c_X7_put X.l X.D X.cI X.cJ X.zt hX7 aX7_above aX7_below hX3 hX2 hX1 hX6 hX0 hX5 s_above s_below l1 ((x40 * x69) - (x59 * x49)) (x49 * x69) _ r_s_above r_s_below r_l1 c134 c139 h) (wr := []) [0, 1, 2] [] rfl rfl rfl (by decide) (by decide) (by decide) (ci := 6) rfl rfl rfl wM_X7_69 wI_X7_put wS_X7_put wZ_X7 wC_X7_put 3 rfl (by decide +kernel) (by rw [hR]; exact ⟨by show 3 + 1 ≤ 4; omega, by show 8 + (8 + 11) + 100 * 3 ≤ 100 * 4; omega⟩) (by rw [hR]; exact ⟨Nat.le_refl _, Nat.le_refl _⟩) (Nat.le_of_ble_eq_true rfl) rfl dX7_reckon_140 (fun rv w1 hq => ?_)
      obtain ⟨x140, s_above_140, s_below_140, rfl, rfl, rx140, rs_above_140, rs_below_140, h⟩ := hq
      show Wat X 0 0 143 [(11, .long (i64 x69)), (9, .long (i64 x59)), (7, .long (i64 x49)), (5, .long (i64 x40)), (0, .ref hX7), (1, .int (i32 l1)), (2, .int (i32 l2)), (3, .int (i32 l3)), (4, .int (i32 l4))] [.int (i32 x140)] [(hX7, .inr (6, [.ref aX7_above, .ref aX7_below, .ref hX3, .ref hX2, .ref hX1, .ref hX6, .ref hX0, .ref hX5])), (aX7_above, aI X.cI 8 s_above_140), (aX7_below, aI X.cI 8 s_below_140)]
      exact q_iret g hF ⟨x140, s_above_140, s_below_140, rfl, rfl, rx140, rs_above_140, rs_below_140, h⟩ dX7_reckon_143
    replace h := h.2
    replace h := h bs72
    refine q_tabIn g 144 2 r_l2 bs72 (by decide) (by decide) rfl (by decide) dX7_reckon_72 ?_
    refine q_aload_n g 0 4 rfl dX7_reckon_144 ?_
    refine q_iload_n g 1 5 rfl dX7_reckon_145 ?_
    refine q_lload g 5 3 rfl dX7_reckon_146 ?_
    refine q_lload g 9 1 rfl dX7_reckon_148 ?_
    obtain ⟨c150, h⟩ := h
    refine q_lmul g dX7_reckon_150 ?_
    refine q_lload g 7 2 rfl dX7_reckon_151 ?_
    refine q_lload g 11 0 rfl dX7_reckon_153 ?_
    obtain ⟨c155, h⟩ := h
    refine q_lmul g dX7_reckon_155 ?_
    refine q_callV (lev := 3) (mc := 0) (ms := 0) g 69 (c_X7_put X.l X.D X.cI X.cJ X.zt hX7 aX7_above aX7_below hX3 hX2 hX1 hX6 hX0 hX5 s_above s_below l1 (x40 * x59) (x49 * x69) _ r_s_above r_s_below r_l1 c150 c155 h) (wr := []) [0, 1, 2] [] rfl rfl rfl (by decide) (by decide) (by decide) (ci := 6) rfl rfl rfl wM_X7_69 wI_X7_put wS_X7_put wZ_X7 wC_X7_put 3 rfl (by decide +kernel) (by rw [hR]; exact ⟨by show 3 + 1 ≤ 4; omega, by show 8 + (8 + 11) + 100 * 3 ≤ 100 * 4; omega⟩) (by rw [hR]; exact ⟨Nat.le_refl _, Nat.le_refl _⟩) (Nat.le_of_ble_eq_true rfl) rfl dX7_reckon_156 (fun rv w1 hq => ?_)
    obtain ⟨x156, s_above_156, s_below_156, rfl, rfl, rx156, rs_above_156, rs_below_156, h⟩ := hq
    show Wat X 0 0 159 [(11, .long (i64 x69)), (9, .long (i64 x59)), (7, .long (i64 x49)), (5, .long (i64 x40)), (0, .ref hX7), (1, .int (i32 l1)), (2, .int (i32 l2)), (3, .int (i32 l3)), (4, .int (i32 l4))] [.int (i32 x156)] [(hX7, .inr (6, [.ref aX7_above, .ref aX7_below, .ref hX3, .ref hX2, .ref hX1, .ref hX6, .ref hX0, .ref hX5])), (aX7_above, aI X.cI 8 s_above_156), (aX7_below, aI X.cI 8 s_below_156)]
    exact q_iret g hF ⟨x156, s_above_156, s_below_156, rfl, rfl, rx156, rs_above_156, rs_below_156, h⟩ dX7_reckon_159
  replace h := h.2 b28
  refine q_lv (lv' := []) [] rfl ?_
  exact s_X7_reckon_31 g hR hX7 aX7_above aX7_below hX3 hX2 hX1 hX6 hX0 hX5 Q hF s_above s_below r_s_above r_s_below h
theorem dX7_road_0 : decode cX7_road 0 = .ok (.iload_n 1, 1) := by decide +kernel
theorem dX7_road_1 : decode cX7_road 1 = .ok (.invokestatic 76, 3) := by decide +kernel
theorem dX7_road_4 : decode cX7_road 4 = .ok (.ifCond .eq 10, 3) := by decide +kernel
theorem dX7_road_7 : decode cX7_road 7 = .ok (.iload_n 2, 1) := by decide +kernel
theorem dX7_road_8 : decode cX7_road 8 = .ok (.invokestatic 64, 3) := by decide +kernel
theorem dX7_road_11 : decode cX7_road 11 = .ok (.ifCond .ne 5, 3) := by decide +kernel
theorem dX7_road_14 : decode cX7_road 14 = .ok (.iconst (-1), 1) := by decide +kernel
theorem dX7_road_15 : decode cX7_road 15 = .ok (.ireturn, 1) := by decide +kernel
theorem dX7_road_16 : decode cX7_road 16 = .ok (.aload_n 0, 1) := by decide +kernel
theorem dX7_road_17 : decode cX7_road 17 = .ok (.iload_n 1, 1) := by decide +kernel
theorem dX7_road_18 : decode cX7_road 18 = .ok (.aload_n 0, 1) := by decide +kernel
theorem dX7_road_19 : decode cX7_road 19 = .ok (.getfield 9, 3) := by decide +kernel
theorem dX7_road_22 : decode cX7_road 22 = .ok (.iload_n 2, 1) := by decide +kernel
theorem dX7_road_23 : decode cX7_road 23 = .ok (.iaload, 1) := by decide +kernel
theorem dX7_road_24 : decode cX7_road 24 = .ok (.aload_n 0, 1) := by decide +kernel
theorem dX7_road_25 : decode cX7_road 25 = .ok (.getfield 13, 3) := by decide +kernel
theorem dX7_road_28 : decode cX7_road 28 = .ok (.iload_n 2, 1) := by decide +kernel
theorem dX7_road_29 : decode cX7_road 29 = .ok (.iaload, 1) := by decide +kernel
theorem dX7_road_30 : decode cX7_road 30 = .ok (.invokevirtual 79, 3) := by decide +kernel
theorem dX7_road_33 : decode cX7_road 33 = .ok (.ireturn, 1) := by decide +kernel
abbrev po_X7_road (cI cJ : ClassId) (hX7 : Nat) (aX7_above : Nat) (aX7_below : Nat) (hX3 : Nat) (hX2 : Nat) (hX1 : Nat) (hX6 : Nat) (hX0 : Nat) (hX5 : Nat) (aX3_shares : Nat) (s_above : Int → Int) (s_below : Int → Int) (Q : Int → (Int → Int) → Int → Prop) : Option Value → va_W → Prop := fun rv w1 => ∃ (r0 : Int) (r_shares : Int → Int) (r_size : Int), rv = some (.int (i32 r0)) ∧ w1 = [(hX7, .inr (6, [.ref aX7_above, .ref aX7_below, .ref hX3, .ref hX2, .ref hX1, .ref hX6, .ref hX0, .ref hX5])), (hX3, .inr (3, [.ref aX3_shares, .int (i32 r_size)])), (aX7_above, aI cI 8 s_above), (aX7_below, aI cI 8 s_below), (aX3_shares, aL cJ 16 r_shares)] ∧ r32 r0 ∧ rr64 r_shares ∧ r32 r_size ∧ Q r0 r_shares r_size
def wp_X7_road_14 (Q : Int → (Int → Int) → Int → Prop) (s_above : Int → Int) (s_below : Int → Int) (r_shares : Int → Int) (r_size : Int) : Prop := Q (-1) r_shares r_size
set_option maxHeartbeats 4000000 in
set_option maxRecDepth 100000 in
theorem s_X7_road_14 {X : Cx} (g : Gd X cX7_road RX7 (some .int) 3) (hR : X.R = rmL 7 0 0) (hX7 : Nat) (aX7_above : Nat) (aX7_below : Nat) (hX3 : Nat) (hX2 : Nat) (hX1 : Nat) (hX6 : Nat) (hX0 : Nat) (hX5 : Nat) (aX3_shares : Nat) (s_above : Int → Int) (s_below : Int → Int) (r_s_above : rr32 s_above) (r_s_below : rr32 s_below) (Q : Int → (Int → Int) → Int → Prop) (hF : FQ X 0 0 (po_X7_road X.cI X.cJ hX7 aX7_above aX7_below hX3 hX2 hX1 hX6 hX0 hX5 aX3_shares s_above s_below Q)) : ∀ (r_shares : Int → Int) (r_size : Int), rr64 r_shares → r32 r_size → wp_X7_road_14 Q s_above s_below r_shares r_size → Wat X 0 0 14 [] [] [(hX7, .inr (6, [.ref aX7_above, .ref aX7_below, .ref hX3, .ref hX2, .ref hX1, .ref hX6, .ref hX0, .ref hX5])), (hX3, .inr (3, [.ref aX3_shares, .int (i32 r_size)])), (aX7_above, aI X.cI 8 s_above), (aX7_below, aI X.cI 8 s_below), (aX3_shares, aL X.cJ 16 r_shares)] := by
  intro r_shares r_size r_r_shares r_r_size h
  rw [wp_X7_road_14] at h
  refine q_iconst g (-1) dX7_road_14 ?_
  exact q_iret g hF ⟨(-1), r_shares, r_size, rfl, rfl, (r32_lit _ (by decide)), r_r_shares, r_r_size, h⟩ dX7_road_15
def wp_X7_road (Q : Int → (Int → Int) → Int → Prop) (s_above : Int → Int) (s_below : Int → Int) (r_shares : Int → Int) (r_size : Int) (l1 : Int) (l2 : Int) : Prop := wp_X7_isRoad (fun (x1 : Int) => ((x1 = 0 → wp_X7_road_14 Q s_above s_below r_shares r_size) ∧
  (¬ (x1 = 0) → wp_X7_isRegister (fun (x8 : Int) => ((¬ x8 = 0 → (0 ≤ l2 ∧ l2 < 8 ∧ 0 ≤ l2 ∧ l2 < 8 ∧ wp_X7_follow (fun (x30 : Int) (r_shares_30 : Int → Int) (r_size_30 : Int) => Q x30 r_shares_30 r_size_30) r_shares r_size l1 (s_above l2) (s_below l2))) ∧
  (x8 = 0 → wp_X7_road_14 Q s_above s_below r_shares r_size))) l2))) l1
set_option maxHeartbeats 4000000 in
set_option maxRecDepth 100000 in
theorem c_X7_road (l : Launch) (D : va_G) (cI cJ : ClassId) (zt : Nat) (hX7 : Nat) (aX7_above : Nat) (aX7_below : Nat) (hX3 : Nat) (hX2 : Nat) (hX1 : Nat) (hX6 : Nat) (hX0 : Nat) (hX5 : Nat) (aX3_shares : Nat) (r_size : Int) (s_above : Int → Int) (s_below : Int → Int) (r_shares : Int → Int) (l1 : Int) (l2 : Int) (Q : Int → (Int → Int) → Int → Prop) (r_s_above : rr32 s_above) (r_s_below : rr32 s_below) (r_r_shares : rr64 r_shares) (r_r_size : r32 r_size) (r_l1 : r32 l1) (r_l2 : r32 l2) (h : wp_X7_road Q s_above s_below r_shares r_size l1 l2) : Ct l D cI cJ zt yX7_road cX7_road 3 (some .int) 7 0 0 [.ref hX7, .int (i32 l1), .int (i32 l2)] [(hX7, .inr (6, [.ref aX7_above, .ref aX7_below, .ref hX3, .ref hX2, .ref hX1, .ref hX6, .ref hX0, .ref hX5])), (hX3, .inr (3, [.ref aX3_shares, .int (i32 r_size)])), (aX7_above, aI cI 8 s_above), (aX7_below, aI cI 8 s_below), (aX3_shares, aL cJ 16 r_shares)] (po_X7_road cI cJ hX7 aX7_above aX7_below hX3 hX2 hX1 hX6 hX0 hX5 aX3_shares s_above s_below Q) := by
  refine ct_of (by decide +kernel) (Nat.le_of_ble_eq_true rfl) (fun X hl hDD hcI hcJ hzt hR hF hnm g => ?_)
  subst hl; subst hDD; subst hcI; subst hcJ; subst hzt
  show Wat X 0 0 0 [(0, .ref hX7), (1, .int (i32 l1)), (2, .int (i32 l2))] [] [(hX7, .inr (6, [.ref aX7_above, .ref aX7_below, .ref hX3, .ref hX2, .ref hX1, .ref hX6, .ref hX0, .ref hX5])), (hX3, .inr (3, [.ref aX3_shares, .int (i32 r_size)])), (aX7_above, aI X.cI 8 s_above), (aX7_below, aI X.cI 8 s_below), (aX3_shares, aL X.cJ 16 r_shares)]
  replace g : Gd X cX7_road RX7 (some .int) 3 := g
  rw [wp_X7_road] at h
  refine q_iload_n g 1 1 rfl dX7_road_0 ?_
  refine q_callS (lev := 1) (mc := 0) (ms := 0) (As := [.int (i32 l1)]) g 76 (c_X7_isRoad X.l X.D X.cI X.cJ X.zt l1 _ r_l1 h) (wr := [(hX7, .inr (6, [.ref aX7_above, .ref aX7_below, .ref hX3, .ref hX2, .ref hX1, .ref hX6, .ref hX0, .ref hX5])), (hX3, .inr (3, [.ref aX3_shares, .int (i32 r_size)])), (aX7_above, aI X.cI 8 s_above), (aX7_below, aI X.cI 8 s_below), (aX3_shares, aL X.cJ 16 r_shares)]) [] [0, 1, 2, 3, 4] rfl rfl rfl (by decide) (by decide) (by decide) wM_X7_76 wT_X7_isRoad wZ_X7 wC_X7_isRoad 1 rfl (by decide +kernel) (by rw [hR]; exact ⟨by show 1 + 1 ≤ 7; omega, by show 8 + (1 + 11) + 100 * 1 ≤ 100 * 7; omega⟩) (by rw [hR]; exact ⟨Nat.le_refl _, Nat.le_refl _⟩) (Nat.le_of_ble_eq_true rfl) rfl dX7_road_1 (fun rv w1 hq => ?_)
  obtain ⟨x1, rfl, rfl, rx1, h⟩ := hq
  show Wat X 0 0 4 [(0, .ref hX7), (1, .int (i32 l1)), (2, .int (i32 l2))] [.int (i32 x1)] [(hX7, .inr (6, [.ref aX7_above, .ref aX7_below, .ref hX3, .ref hX2, .ref hX1, .ref hX6, .ref hX0, .ref hX5])), (hX3, .inr (3, [.ref aX3_shares, .int (i32 r_size)])), (aX7_above, aI X.cI 8 s_above), (aX7_below, aI X.cI 8 s_below), (aX3_shares, aL X.cJ 16 r_shares)]
  refine q_if_eq g (10) 14 rx1 (by decide) dX7_road_4 (fun b4 => ?_) (fun b4 => ?_)
  · replace h := h.1 b4
    refine q_lv (lv' := []) [] rfl ?_
    exact s_X7_road_14 g hR hX7 aX7_above aX7_below hX3 hX2 hX1 hX6 hX0 hX5 aX3_shares s_above s_below r_s_above r_s_below Q hF r_shares r_size r_r_shares r_r_size h
  replace h := h.2 b4
  refine q_iload_n g 2 2 rfl dX7_road_7 ?_
  refine q_callS (lev := 1) (mc := 0) (ms := 0) (As := [.int (i32 l2)]) g 64 (c_X7_isRegister X.l X.D X.cI X.cJ X.zt l2 _ r_l2 h) (wr := [(hX7, .inr (6, [.ref aX7_above, .ref aX7_below, .ref hX3, .ref hX2, .ref hX1, .ref hX6, .ref hX0, .ref hX5])), (hX3, .inr (3, [.ref aX3_shares, .int (i32 r_size)])), (aX7_above, aI X.cI 8 s_above), (aX7_below, aI X.cI 8 s_below), (aX3_shares, aL X.cJ 16 r_shares)]) [] [0, 1, 2, 3, 4] rfl rfl rfl (by decide) (by decide) (by decide) wM_X7_64 wT_X7_isRegister wZ_X7 wC_X7_isRegister 1 rfl (by decide +kernel) (by rw [hR]; exact ⟨by show 1 + 1 ≤ 7; omega, by show 8 + (1 + 11) + 100 * 1 ≤ 100 * 7; omega⟩) (by rw [hR]; exact ⟨Nat.le_refl _, Nat.le_refl _⟩) (Nat.le_of_ble_eq_true rfl) rfl dX7_road_8 (fun rv w1 hq => ?_)
  obtain ⟨x8, rfl, rfl, rx8, h⟩ := hq
  show Wat X 0 0 11 [(0, .ref hX7), (1, .int (i32 l1)), (2, .int (i32 l2))] [.int (i32 x8)] [(hX7, .inr (6, [.ref aX7_above, .ref aX7_below, .ref hX3, .ref hX2, .ref hX1, .ref hX6, .ref hX0, .ref hX5])), (hX3, .inr (3, [.ref aX3_shares, .int (i32 r_size)])), (aX7_above, aI X.cI 8 s_above), (aX7_below, aI X.cI 8 s_below), (aX3_shares, aL X.cJ 16 r_shares)]
  refine q_if_ne g (5) 16 rx8 (by decide) dX7_road_11 (fun b11 => ?_) (fun b11 => ?_)
  · replace h := h.1 b11
    refine q_aload_n g 0 0 rfl dX7_road_16 ?_
    refine q_iload_n g 1 1 rfl dX7_road_17 ?_
    refine q_aload_n g 0 0 rfl dX7_road_18 ?_
    refine q_get (C := RX7) (T := TX7) (N := 8) g 9 inX7 0 0 rfl rfl (by decide) wF_X7_9 rfl dX7_road_19 ?_
    refine q_iload_n g 2 2 rfl dX7_road_22 ?_
    obtain ⟨c23, h⟩ := h
    obtain ⟨e23, h⟩ := h
    refine q_iald g 2 rfl c23 e23 (by decide) dX7_road_23 ?_
    refine q_aload_n g 0 0 rfl dX7_road_24 ?_
    refine q_get (C := RX7) (T := TX7) (N := 8) g 13 inX7 0 1 rfl rfl (by decide) wF_X7_13 rfl dX7_road_25 ?_
    refine q_iload_n g 2 2 rfl dX7_road_28 ?_
    obtain ⟨c29, h⟩ := h
    obtain ⟨e29, h⟩ := h
    refine q_iald g 3 rfl c29 e29 (by decide) dX7_road_29 ?_
    refine q_callV (lev := 6) (mc := 0) (ms := 0) g 79 (c_X7_follow X.l X.D X.cI X.cJ X.zt hX7 aX7_above aX7_below hX3 hX2 hX1 hX6 hX0 hX5 aX3_shares r_size r_shares l1 (s_above l2) (s_below l2) _ r_r_shares r_r_size r_l1 (r_s_above _) (r_s_below _) h) (wr := [(aX7_above, aI X.cI 8 s_above), (aX7_below, aI X.cI 8 s_below)]) [0, 1, 4] [2, 3] rfl rfl rfl (by decide) (by decide) (by decide) (ci := 6) rfl rfl rfl wM_X7_79 wI_X7_follow wS_X7_follow wZ_X7 wC_X7_follow 3 rfl (by decide +kernel) (by rw [hR]; exact ⟨by show 6 + 1 ≤ 7; omega, by show 8 + (4 + 11) + 100 * 6 ≤ 100 * 7; omega⟩) (by rw [hR]; exact ⟨Nat.le_refl _, Nat.le_refl _⟩) (Nat.le_of_ble_eq_true rfl) rfl dX7_road_30 (fun rv w1 hq => ?_)
    obtain ⟨x30, r_shares_30, r_size_30, rfl, rfl, rx30, rr_shares_30, rr_size_30, h⟩ := hq
    refine q_ws (ws' := [(hX7, .inr (6, [.ref aX7_above, .ref aX7_below, .ref hX3, .ref hX2, .ref hX1, .ref hX6, .ref hX0, .ref hX5])), (hX3, .inr (3, [.ref aX3_shares, .int (i32 r_size_30)])), (aX7_above, aI X.cI 8 s_above), (aX7_below, aI X.cI 8 s_below), (aX3_shares, aL X.cJ 16 r_shares_30)]) [2, 3, 0, 1, 4] (by decide) rfl rfl ?_
    show Wat X 0 0 33 [(0, .ref hX7), (1, .int (i32 l1)), (2, .int (i32 l2))] [.int (i32 x30)] [(hX7, .inr (6, [.ref aX7_above, .ref aX7_below, .ref hX3, .ref hX2, .ref hX1, .ref hX6, .ref hX0, .ref hX5])), (hX3, .inr (3, [.ref aX3_shares, .int (i32 r_size_30)])), (aX7_above, aI X.cI 8 s_above), (aX7_below, aI X.cI 8 s_below), (aX3_shares, aL X.cJ 16 r_shares_30)]
    exact q_iret g hF ⟨x30, r_shares_30, r_size_30, rfl, rfl, rx30, rr_shares_30, rr_size_30, h⟩ dX7_road_33
  replace h := h.2 b11
  refine q_lv (lv' := []) [] rfl ?_
  exact s_X7_road_14 g hR hX7 aX7_above aX7_below hX3 hX2 hX1 hX6 hX0 hX5 aX3_shares s_above s_below r_s_above r_s_below Q hF r_shares r_size r_r_shares r_r_size h
theorem dX7_share_0 : decode cX7_share 0 = .ok (.iload_n 1, 1) := by decide +kernel
theorem dX7_share_1 : decode cX7_share 1 = .ok (.invokestatic 76, 3) := by decide +kernel
theorem dX7_share_4 : decode cX7_share 4 = .ok (.ifCond .eq 14, 3) := by decide +kernel
theorem dX7_share_7 : decode cX7_share 7 = .ok (.iload_n 2, 1) := by decide +kernel
theorem dX7_share_8 : decode cX7_share 8 = .ok (.invokestatic 64, 3) := by decide +kernel
theorem dX7_share_11 : decode cX7_share 11 = .ok (.ifCond .eq 7, 3) := by decide +kernel
theorem dX7_share_14 : decode cX7_share 14 = .ok (.iload_n 3, 1) := by decide +kernel
theorem dX7_share_15 : decode cX7_share 15 = .ok (.ifCond .ge 7, 3) := by decide +kernel
theorem dX7_share_18 : decode cX7_share 18 = .ok (.ldc2_w 83, 3) := by decide +kernel
theorem dX7_share_21 : decode cX7_share 21 = .ok (.lreturn, 1) := by decide +kernel
theorem dX7_share_22 : decode cX7_share 22 = .ok (.aload_n 0, 1) := by decide +kernel
theorem dX7_share_23 : decode cX7_share 23 = .ok (.iload_n 1, 1) := by decide +kernel
theorem dX7_share_24 : decode cX7_share 24 = .ok (.aload_n 0, 1) := by decide +kernel
theorem dX7_share_25 : decode cX7_share 25 = .ok (.getfield 9, 3) := by decide +kernel
theorem dX7_share_28 : decode cX7_share 28 = .ok (.iload_n 2, 1) := by decide +kernel
theorem dX7_share_29 : decode cX7_share 29 = .ok (.iaload, 1) := by decide +kernel
theorem dX7_share_30 : decode cX7_share 30 = .ok (.aload_n 0, 1) := by decide +kernel
theorem dX7_share_31 : decode cX7_share 31 = .ok (.getfield 13, 3) := by decide +kernel
theorem dX7_share_34 : decode cX7_share 34 = .ok (.iload_n 2, 1) := by decide +kernel
theorem dX7_share_35 : decode cX7_share 35 = .ok (.iaload, 1) := by decide +kernel
theorem dX7_share_36 : decode cX7_share 36 = .ok (.invokevirtual 79, 3) := by decide +kernel
theorem dX7_share_39 : decode cX7_share 39 = .ok (.istore 4, 2) := by decide +kernel
theorem dX7_share_41 : decode cX7_share 41 = .ok (.iload 4, 2) := by decide +kernel
theorem dX7_share_43 : decode cX7_share 43 = .ok (.ifCond .ge 7, 3) := by decide +kernel
theorem dX7_share_46 : decode cX7_share 46 = .ok (.iload 4, 2) := by decide +kernel
theorem dX7_share_48 : decode cX7_share 48 = .ok (.i2l, 1) := by decide +kernel
theorem dX7_share_49 : decode cX7_share 49 = .ok (.lreturn, 1) := by decide +kernel
theorem dX7_share_50 : decode cX7_share 50 = .ok (.iload_n 3, 1) := by decide +kernel
theorem dX7_share_51 : decode cX7_share 51 = .ok (.iload 4, 2) := by decide +kernel
theorem dX7_share_53 : decode cX7_share 53 = .ok (.if_icmp .ge 14, 3) := by decide +kernel
theorem dX7_share_56 : decode cX7_share 56 = .ok (.aload_n 0, 1) := by decide +kernel
theorem dX7_share_57 : decode cX7_share 57 = .ok (.getfield 19, 3) := by decide +kernel
theorem dX7_share_60 : decode cX7_share 60 = .ok (.iload_n 3, 1) := by decide +kernel
theorem dX7_share_61 : decode cX7_share 61 = .ok (.invokevirtual 85, 3) := by decide +kernel
theorem dX7_share_64 : decode cX7_share 64 = .ok (.goto 6, 3) := by decide +kernel
theorem dX7_share_67 : decode cX7_share 67 = .ok (.ldc2_w 89, 3) := by decide +kernel
theorem dX7_share_70 : decode cX7_share 70 = .ok (.lreturn, 1) := by decide +kernel
abbrev po_X7_share (cI cJ : ClassId) (hX7 : Nat) (aX7_above : Nat) (aX7_below : Nat) (hX3 : Nat) (hX2 : Nat) (hX1 : Nat) (hX6 : Nat) (hX0 : Nat) (hX5 : Nat) (aX3_shares : Nat) (s_above : Int → Int) (s_below : Int → Int) (Q : Int → (Int → Int) → Int → Prop) : Option Value → va_W → Prop := fun rv w1 => ∃ (r0 : Int) (r_shares : Int → Int) (r_size : Int), rv = some (.long (i64 r0)) ∧ w1 = [(hX7, .inr (6, [.ref aX7_above, .ref aX7_below, .ref hX3, .ref hX2, .ref hX1, .ref hX6, .ref hX0, .ref hX5])), (hX3, .inr (3, [.ref aX3_shares, .int (i32 r_size)])), (aX7_above, aI cI 8 s_above), (aX7_below, aI cI 8 s_below), (aX3_shares, aL cJ 16 r_shares)] ∧ r64 r0 ∧ rr64 r_shares ∧ r32 r_size ∧ Q r0 r_shares r_size
def wp_X7_share_18 (Q : Int → (Int → Int) → Int → Prop) (s_above : Int → Int) (s_below : Int → Int) (r_shares : Int → Int) (r_size : Int) : Prop := Q (-1) r_shares r_size
set_option maxHeartbeats 4000000 in
set_option maxRecDepth 100000 in
theorem s_X7_share_18 {X : Cx} (g : Gd X cX7_share RX7 (some .long) 5) (hR : X.R = rmL 7 0 0) (hX7 : Nat) (aX7_above : Nat) (aX7_below : Nat) (hX3 : Nat) (hX2 : Nat) (hX1 : Nat) (hX6 : Nat) (hX0 : Nat) (hX5 : Nat) (aX3_shares : Nat) (s_above : Int → Int) (s_below : Int → Int) (r_s_above : rr32 s_above) (r_s_below : rr32 s_below) (Q : Int → (Int → Int) → Int → Prop) (hF : FQ X 0 0 (po_X7_share X.cI X.cJ hX7 aX7_above aX7_below hX3 hX2 hX1 hX6 hX0 hX5 aX3_shares s_above s_below Q)) : ∀ (r_shares : Int → Int) (r_size : Int), rr64 r_shares → r32 r_size → wp_X7_share_18 Q s_above s_below r_shares r_size → Wat X 0 0 18 [] [] [(hX7, .inr (6, [.ref aX7_above, .ref aX7_below, .ref hX3, .ref hX2, .ref hX1, .ref hX6, .ref hX0, .ref hX5])), (hX3, .inr (3, [.ref aX3_shares, .int (i32 r_size)])), (aX7_above, aI X.cI 8 s_above), (aX7_below, aI X.cI 8 s_below), (aX3_shares, aL X.cJ 16 r_shares)] := by
  intro r_shares r_size r_r_shares r_r_size h
  rw [wp_X7_share_18] at h
  refine q_ldc2 (w := (-1)) g 83 (-1) (by decide +kernel) wL_X7_83 dX7_share_18 ?_
  exact q_lret g hF ⟨(-1), r_shares, r_size, rfl, rfl, (r64_lit _ (by decide)), r_r_shares, r_r_size, h⟩ dX7_share_21
def wp_X7_share_70 (Q : Int → (Int → Int) → Int → Prop) (s_above : Int → Int) (s_below : Int → Int) (r_shares : Int → Int) (r_size : Int) (k0 : Int) : Prop := Q k0 r_shares r_size
set_option maxHeartbeats 4000000 in
set_option maxRecDepth 100000 in
theorem s_X7_share_70 {X : Cx} (g : Gd X cX7_share RX7 (some .long) 5) (hR : X.R = rmL 7 0 0) (hX7 : Nat) (aX7_above : Nat) (aX7_below : Nat) (hX3 : Nat) (hX2 : Nat) (hX1 : Nat) (hX6 : Nat) (hX0 : Nat) (hX5 : Nat) (aX3_shares : Nat) (s_above : Int → Int) (s_below : Int → Int) (r_s_above : rr32 s_above) (r_s_below : rr32 s_below) (Q : Int → (Int → Int) → Int → Prop) (hF : FQ X 0 0 (po_X7_share X.cI X.cJ hX7 aX7_above aX7_below hX3 hX2 hX1 hX6 hX0 hX5 aX3_shares s_above s_below Q)) : ∀ (r_shares : Int → Int) (r_size : Int) (k0 : Int), rr64 r_shares → r32 r_size → r64 k0 → wp_X7_share_70 Q s_above s_below r_shares r_size k0 → Wat X 0 0 70 [] [.long (i64 k0)] [(hX7, .inr (6, [.ref aX7_above, .ref aX7_below, .ref hX3, .ref hX2, .ref hX1, .ref hX6, .ref hX0, .ref hX5])), (hX3, .inr (3, [.ref aX3_shares, .int (i32 r_size)])), (aX7_above, aI X.cI 8 s_above), (aX7_below, aI X.cI 8 s_below), (aX3_shares, aL X.cJ 16 r_shares)] := by
  intro r_shares r_size k0 r_r_shares r_r_size r_k0 h
  rw [wp_X7_share_70] at h
  exact q_lret g hF ⟨k0, r_shares, r_size, rfl, rfl, r_k0, r_r_shares, r_r_size, h⟩ dX7_share_70
def wp_X7_share (Q : Int → (Int → Int) → Int → Prop) (s_above : Int → Int) (s_below : Int → Int) (r_shares : Int → Int) (r_size : Int) (l1 : Int) (l2 : Int) (l3 : Int) : Prop := wp_X7_isRoad (fun (x1 : Int) => ((x1 = 0 → wp_X7_share_18 Q s_above s_below r_shares r_size) ∧
  (¬ (x1 = 0) → wp_X7_isRegister (fun (x8 : Int) => ((x8 = 0 → wp_X7_share_18 Q s_above s_below r_shares r_size) ∧
  (¬ (x8 = 0) → ((0 ≤ l3 → (0 ≤ l2 ∧ l2 < 8 ∧ 0 ≤ l2 ∧ l2 < 8 ∧ wp_X7_follow (fun (x36 : Int) (r_shares_36 : Int → Int) (r_size_36 : Int) => ((0 ≤ x36 → ((x36 ≤ l3 → wp_X7_share_70 Q s_above s_below r_shares_36 r_size_36 (-4)) ∧
  (¬ (x36 ≤ l3) → wp_X3_at (fun (x61 : Int) => wp_X7_share_70 Q s_above s_below r_shares_36 r_size_36 x61) r_shares_36 r_size_36 l3))) ∧
  (¬ (0 ≤ x36) → Q x36 r_shares_36 r_size_36))) r_shares r_size l1 (s_above l2) (s_below l2))) ∧
  (¬ (0 ≤ l3) → wp_X7_share_18 Q s_above s_below r_shares r_size))))) l2))) l1
set_option maxHeartbeats 4000000 in
set_option maxRecDepth 100000 in
theorem c_X7_share (l : Launch) (D : va_G) (cI cJ : ClassId) (zt : Nat) (hX7 : Nat) (aX7_above : Nat) (aX7_below : Nat) (hX3 : Nat) (hX2 : Nat) (hX1 : Nat) (hX6 : Nat) (hX0 : Nat) (hX5 : Nat) (aX3_shares : Nat) (r_size : Int) (s_above : Int → Int) (s_below : Int → Int) (r_shares : Int → Int) (l1 : Int) (l2 : Int) (l3 : Int) (Q : Int → (Int → Int) → Int → Prop) (r_s_above : rr32 s_above) (r_s_below : rr32 s_below) (r_r_shares : rr64 r_shares) (r_r_size : r32 r_size) (r_l1 : r32 l1) (r_l2 : r32 l2) (r_l3 : r32 l3) (h : wp_X7_share Q s_above s_below r_shares r_size l1 l2 l3) : Ct l D cI cJ zt yX7_share cX7_share 5 (some .long) 7 0 0 [.ref hX7, .int (i32 l1), .int (i32 l2), .int (i32 l3)] [(hX7, .inr (6, [.ref aX7_above, .ref aX7_below, .ref hX3, .ref hX2, .ref hX1, .ref hX6, .ref hX0, .ref hX5])), (hX3, .inr (3, [.ref aX3_shares, .int (i32 r_size)])), (aX7_above, aI cI 8 s_above), (aX7_below, aI cI 8 s_below), (aX3_shares, aL cJ 16 r_shares)] (po_X7_share cI cJ hX7 aX7_above aX7_below hX3 hX2 hX1 hX6 hX0 hX5 aX3_shares s_above s_below Q) := by
  refine ct_of (by decide +kernel) (Nat.le_of_ble_eq_true rfl) (fun X hl hDD hcI hcJ hzt hR hF hnm g => ?_)
  subst hl; subst hDD; subst hcI; subst hcJ; subst hzt
  show Wat X 0 0 0 [(0, .ref hX7), (1, .int (i32 l1)), (2, .int (i32 l2)), (3, .int (i32 l3))] [] [(hX7, .inr (6, [.ref aX7_above, .ref aX7_below, .ref hX3, .ref hX2, .ref hX1, .ref hX6, .ref hX0, .ref hX5])), (hX3, .inr (3, [.ref aX3_shares, .int (i32 r_size)])), (aX7_above, aI X.cI 8 s_above), (aX7_below, aI X.cI 8 s_below), (aX3_shares, aL X.cJ 16 r_shares)]
  replace g : Gd X cX7_share RX7 (some .long) 5 := g
  rw [wp_X7_share] at h
  refine q_iload_n g 1 1 rfl dX7_share_0 ?_
  refine q_callS (lev := 1) (mc := 0) (ms := 0) (As := [.int (i32 l1)]) g 76 (c_X7_isRoad X.l X.D X.cI X.cJ X.zt l1 _ r_l1 h) (wr := [(hX7, .inr (6, [.ref aX7_above, .ref aX7_below, .ref hX3, .ref hX2, .ref hX1, .ref hX6, .ref hX0, .ref hX5])), (hX3, .inr (3, [.ref aX3_shares, .int (i32 r_size)])), (aX7_above, aI X.cI 8 s_above), (aX7_below, aI X.cI 8 s_below), (aX3_shares, aL X.cJ 16 r_shares)]) [] [0, 1, 2, 3, 4] rfl rfl rfl (by decide) (by decide) (by decide) wM_X7_76 wT_X7_isRoad wZ_X7 wC_X7_isRoad 1 rfl (by decide +kernel) (by rw [hR]; exact ⟨by show 1 + 1 ≤ 7; omega, by show 8 + (1 + 11) + 100 * 1 ≤ 100 * 7; omega⟩) (by rw [hR]; exact ⟨Nat.le_refl _, Nat.le_refl _⟩) (Nat.le_of_ble_eq_true rfl) rfl dX7_share_1 (fun rv w1 hq => ?_)
  obtain ⟨x1, rfl, rfl, rx1, h⟩ := hq
  show Wat X 0 0 4 [(0, .ref hX7), (1, .int (i32 l1)), (2, .int (i32 l2)), (3, .int (i32 l3))] [.int (i32 x1)] [(hX7, .inr (6, [.ref aX7_above, .ref aX7_below, .ref hX3, .ref hX2, .ref hX1, .ref hX6, .ref hX0, .ref hX5])), (hX3, .inr (3, [.ref aX3_shares, .int (i32 r_size)])), (aX7_above, aI X.cI 8 s_above), (aX7_below, aI X.cI 8 s_below), (aX3_shares, aL X.cJ 16 r_shares)]
  refine q_if_eq g (14) 18 rx1 (by decide) dX7_share_4 (fun b4 => ?_) (fun b4 => ?_)
  · replace h := h.1 b4
    refine q_lv (lv' := []) [] rfl ?_
    exact s_X7_share_18 g hR hX7 aX7_above aX7_below hX3 hX2 hX1 hX6 hX0 hX5 aX3_shares s_above s_below r_s_above r_s_below Q hF r_shares r_size r_r_shares r_r_size h
  replace h := h.2 b4
  refine q_iload_n g 2 2 rfl dX7_share_7 ?_
  refine q_callS (lev := 1) (mc := 0) (ms := 0) (As := [.int (i32 l2)]) g 64 (c_X7_isRegister X.l X.D X.cI X.cJ X.zt l2 _ r_l2 h) (wr := [(hX7, .inr (6, [.ref aX7_above, .ref aX7_below, .ref hX3, .ref hX2, .ref hX1, .ref hX6, .ref hX0, .ref hX5])), (hX3, .inr (3, [.ref aX3_shares, .int (i32 r_size)])), (aX7_above, aI X.cI 8 s_above), (aX7_below, aI X.cI 8 s_below), (aX3_shares, aL X.cJ 16 r_shares)]) [] [0, 1, 2, 3, 4] rfl rfl rfl (by decide) (by decide) (by decide) wM_X7_64 wT_X7_isRegister wZ_X7 wC_X7_isRegister 1 rfl (by decide +kernel) (by rw [hR]; exact ⟨by show 1 + 1 ≤ 7; omega, by show 8 + (1 + 11) + 100 * 1 ≤ 100 * 7; omega⟩) (by rw [hR]; exact ⟨Nat.le_refl _, Nat.le_refl _⟩) (Nat.le_of_ble_eq_true rfl) rfl dX7_share_8 (fun rv w1 hq => ?_)
  obtain ⟨x8, rfl, rfl, rx8, h⟩ := hq
  show Wat X 0 0 11 [(0, .ref hX7), (1, .int (i32 l1)), (2, .int (i32 l2)), (3, .int (i32 l3))] [.int (i32 x8)] [(hX7, .inr (6, [.ref aX7_above, .ref aX7_below, .ref hX3, .ref hX2, .ref hX1, .ref hX6, .ref hX0, .ref hX5])), (hX3, .inr (3, [.ref aX3_shares, .int (i32 r_size)])), (aX7_above, aI X.cI 8 s_above), (aX7_below, aI X.cI 8 s_below), (aX3_shares, aL X.cJ 16 r_shares)]
  refine q_if_eq g (7) 18 rx8 (by decide) dX7_share_11 (fun b11 => ?_) (fun b11 => ?_)
  · replace h := h.1 b11
    refine q_lv (lv' := []) [] rfl ?_
    exact s_X7_share_18 g hR hX7 aX7_above aX7_below hX3 hX2 hX1 hX6 hX0 hX5 aX3_shares s_above s_below r_s_above r_s_below Q hF r_shares r_size r_r_shares r_r_size h
  replace h := h.2 b11
  refine q_iload_n g 3 3 rfl dX7_share_14 ?_
  refine q_if_ge g (7) 22 r_l3 (by decide) dX7_share_15 (fun b15 => ?_) (fun b15 => ?_)
  · replace h := h.1 b15
    refine q_aload_n g 0 0 rfl dX7_share_22 ?_
    refine q_iload_n g 1 1 rfl dX7_share_23 ?_
    refine q_aload_n g 0 0 rfl dX7_share_24 ?_
    refine q_get (C := RX7) (T := TX7) (N := 8) g 9 inX7 0 0 rfl rfl (by decide) wF_X7_9 rfl dX7_share_25 ?_
    refine q_iload_n g 2 2 rfl dX7_share_28 ?_
    obtain ⟨c29, h⟩ := h
    obtain ⟨e29, h⟩ := h
    refine q_iald g 2 rfl c29 e29 (by decide) dX7_share_29 ?_
    refine q_aload_n g 0 0 rfl dX7_share_30 ?_
    refine q_get (C := RX7) (T := TX7) (N := 8) g 13 inX7 0 1 rfl rfl (by decide) wF_X7_13 rfl dX7_share_31 ?_
    refine q_iload_n g 2 2 rfl dX7_share_34 ?_
    obtain ⟨c35, h⟩ := h
    obtain ⟨e35, h⟩ := h
    refine q_iald g 3 rfl c35 e35 (by decide) dX7_share_35 ?_
    refine q_callV (lev := 6) (mc := 0) (ms := 0) g 79 (c_X7_follow X.l X.D X.cI X.cJ X.zt hX7 aX7_above aX7_below hX3 hX2 hX1 hX6 hX0 hX5 aX3_shares r_size r_shares l1 (s_above l2) (s_below l2) _ r_r_shares r_r_size r_l1 (r_s_above _) (r_s_below _) h) (wr := [(aX7_above, aI X.cI 8 s_above), (aX7_below, aI X.cI 8 s_below)]) [0, 1, 4] [2, 3] rfl rfl rfl (by decide) (by decide) (by decide) (ci := 6) rfl rfl rfl wM_X7_79 wI_X7_follow wS_X7_follow wZ_X7 wC_X7_follow 3 rfl (by decide +kernel) (by rw [hR]; exact ⟨by show 6 + 1 ≤ 7; omega, by show 8 + (4 + 11) + 100 * 6 ≤ 100 * 7; omega⟩) (by rw [hR]; exact ⟨Nat.le_refl _, Nat.le_refl _⟩) (Nat.le_of_ble_eq_true rfl) rfl dX7_share_36 (fun rv w1 hq => ?_)
    obtain ⟨x36, r_shares_36, r_size_36, rfl, rfl, rx36, rr_shares_36, rr_size_36, h⟩ := hq
    refine q_ws (ws' := [(hX7, .inr (6, [.ref aX7_above, .ref aX7_below, .ref hX3, .ref hX2, .ref hX1, .ref hX6, .ref hX0, .ref hX5])), (hX3, .inr (3, [.ref aX3_shares, .int (i32 r_size_36)])), (aX7_above, aI X.cI 8 s_above), (aX7_below, aI X.cI 8 s_below), (aX3_shares, aL X.cJ 16 r_shares_36)]) [2, 3, 0, 1, 4] (by decide) rfl rfl ?_
    show Wat X 0 0 39 [(0, .ref hX7), (1, .int (i32 l1)), (2, .int (i32 l2)), (3, .int (i32 l3))] [.int (i32 x36)] [(hX7, .inr (6, [.ref aX7_above, .ref aX7_below, .ref hX3, .ref hX2, .ref hX1, .ref hX6, .ref hX0, .ref hX5])), (hX3, .inr (3, [.ref aX3_shares, .int (i32 r_size_36)])), (aX7_above, aI X.cI 8 s_above), (aX7_below, aI X.cI 8 s_below), (aX3_shares, aL X.cJ 16 r_shares_36)]
    refine q_istore (lv' := [(4, .int (i32 x36)), (0, .ref hX7), (1, .int (i32 l1)), (2, .int (i32 l2)), (3, .int (i32 l3))]) g 4   (by decide) rfl dX7_share_39 ?_
    refine q_iload g 4 0 rfl dX7_share_41 ?_
    refine q_if_ge g (7) 50 rx36 (by decide) dX7_share_43 (fun b43 => ?_) (fun b43 => ?_)
    · replace h := h.1 b43
      refine q_iload_n g 3 4 rfl dX7_share_50 ?_
      refine q_iload g 4 0 rfl dX7_share_51 ?_
      refine q_icmp_ge g (14) 67 r_l3 rx36 (by decide) dX7_share_53 (fun b53 => ?_) (fun b53 => ?_)
      · replace h := h.1 b53
        refine q_ldc2 (w := (-4)) g 89 (-4) (by decide +kernel) wL_X7_89 dX7_share_67 ?_
        refine q_lv (lv' := []) [] rfl ?_
        exact s_X7_share_70 g hR hX7 aX7_above aX7_below hX3 hX2 hX1 hX6 hX0 hX5 aX3_shares s_above s_below r_s_above r_s_below Q hF r_shares_36 r_size_36 (-4) rr_shares_36 rr_size_36 (r64_lit _ (by decide)) h
      replace h := h.2 b53
      refine q_aload_n g 0 1 rfl dX7_share_56 ?_
      refine q_get (C := RX7) (T := TX7) (N := 8) g 19 inX7 0 2 rfl rfl (by decide) wF_X7_19 rfl dX7_share_57 ?_
      refine q_iload_n g 3 4 rfl dX7_share_60 ?_
      refine q_callV (lev := 1) (mc := 0) (ms := 0) g 85 (c_X3_at X.l X.D X.cI X.cJ X.zt hX3 aX3_shares r_size_36 r_shares_36 l3 _ rr_shares_36 rr_size_36 r_l3 h) (wr := [(hX7, .inr (6, [.ref aX7_above, .ref aX7_below, .ref hX3, .ref hX2, .ref hX1, .ref hX6, .ref hX0, .ref hX5])), (aX7_above, aI X.cI 8 s_above), (aX7_below, aI X.cI 8 s_below)]) [1, 4] [0, 2, 3] rfl rfl rfl (by decide) (by decide) (by decide) (ci := 3) rfl rfl rfl wM_X7_85 wI_X3_at wS_X3_at wZ_X3 wC_X3_at 1 rfl (by decide +kernel) (by rw [hR]; exact ⟨by show 1 + 1 ≤ 7; omega, by show 8 + (2 + 11) + 100 * 1 ≤ 100 * 7; omega⟩) (by rw [hR]; exact ⟨Nat.le_refl _, Nat.le_refl _⟩) (Nat.le_of_ble_eq_true rfl) rfl dX7_share_61 (fun rv w1 hq => ?_)
      obtain ⟨x61, rfl, rfl, rx61, h⟩ := hq
      refine q_ws (ws' := [(hX7, .inr (6, [.ref aX7_above, .ref aX7_below, .ref hX3, .ref hX2, .ref hX1, .ref hX6, .ref hX0, .ref hX5])), (hX3, .inr (3, [.ref aX3_shares, .int (i32 r_size_36)])), (aX7_above, aI X.cI 8 s_above), (aX7_below, aI X.cI 8 s_below), (aX3_shares, aL X.cJ 16 r_shares_36)]) [0, 3, 1, 2, 4] (by decide) rfl rfl ?_
      show Wat X 0 0 64 [(4, .int (i32 x36)), (0, .ref hX7), (1, .int (i32 l1)), (2, .int (i32 l2)), (3, .int (i32 l3))] [.long (i64 x61)] [(hX7, .inr (6, [.ref aX7_above, .ref aX7_below, .ref hX3, .ref hX2, .ref hX1, .ref hX6, .ref hX0, .ref hX5])), (hX3, .inr (3, [.ref aX3_shares, .int (i32 r_size_36)])), (aX7_above, aI X.cI 8 s_above), (aX7_below, aI X.cI 8 s_below), (aX3_shares, aL X.cJ 16 r_shares_36)]
      refine q_goto g (6) 70 (by decide) dX7_share_64 ?_
      refine q_lv (lv' := []) [] rfl ?_
      exact s_X7_share_70 g hR hX7 aX7_above aX7_below hX3 hX2 hX1 hX6 hX0 hX5 aX3_shares s_above s_below r_s_above r_s_below Q hF r_shares_36 r_size_36 x61 rr_shares_36 rr_size_36 rx61 h
    replace h := h.2 b43
    refine q_iload g 4 0 rfl dX7_share_46 ?_
    refine q_i2l g rx36 dX7_share_48 ?_
    exact q_lret g hF ⟨x36, r_shares_36, r_size_36, rfl, rfl, (r32_64 rx36), rr_shares_36, rr_size_36, h⟩ dX7_share_49
  replace h := h.2 b15
  refine q_lv (lv' := []) [] rfl ?_
  exact s_X7_share_18 g hR hX7 aX7_above aX7_below hX3 hX2 hX1 hX6 hX0 hX5 aX3_shares s_above s_below r_s_above r_s_below Q hF r_shares r_size r_r_shares r_r_size h
theorem dX7_sum_0 : decode cX7_sum 0 = .ok (.iload_n 1, 1) := by decide +kernel
theorem dX7_sum_1 : decode cX7_sum 1 = .ok (.ifCond .lt 8, 3) := by decide +kernel
theorem dX7_sum_4 : decode cX7_sum 4 = .ok (.iload_n 2, 1) := by decide +kernel
theorem dX7_sum_5 : decode cX7_sum 5 = .ok (.iconst (-1), 1) := by decide +kernel
theorem dX7_sum_6 : decode cX7_sum 6 = .ok (.if_icmp .ge 5, 3) := by decide +kernel
theorem dX7_sum_9 : decode cX7_sum 9 = .ok (.iconst (-1), 1) := by decide +kernel
theorem dX7_sum_10 : decode cX7_sum 10 = .ok (.ireturn, 1) := by decide +kernel
theorem dX7_sum_11 : decode cX7_sum 11 = .ok (.aload_n 0, 1) := by decide +kernel
theorem dX7_sum_12 : decode cX7_sum 12 = .ok (.getfield 33, 3) := by decide +kernel
theorem dX7_sum_15 : decode cX7_sum 15 = .ok (.invokevirtual 110, 3) := by decide +kernel
theorem dX7_sum_18 : decode cX7_sum 18 = .ok (.ifCond .ne 6, 3) := by decide +kernel
theorem dX7_sum_21 : decode cX7_sum 21 = .ok (.bipush (-2), 2) := by decide +kernel
theorem dX7_sum_23 : decode cX7_sum 23 = .ok (.ireturn, 1) := by decide +kernel
theorem dX7_sum_24 : decode cX7_sum 24 = .ok (.iload_n 1, 1) := by decide +kernel
theorem dX7_sum_25 : decode cX7_sum 25 = .ok (.aload_n 0, 1) := by decide +kernel
theorem dX7_sum_26 : decode cX7_sum 26 = .ok (.getfield 33, 3) := by decide +kernel
theorem dX7_sum_29 : decode cX7_sum 29 = .ok (.invokevirtual 114, 3) := by decide +kernel
theorem dX7_sum_32 : decode cX7_sum 32 = .ok (.if_icmp .lt 6, 3) := by decide +kernel
theorem dX7_sum_35 : decode cX7_sum 35 = .ok (.bipush (-4), 2) := by decide +kernel
theorem dX7_sum_37 : decode cX7_sum 37 = .ok (.ireturn, 1) := by decide +kernel
theorem dX7_sum_38 : decode cX7_sum 38 = .ok (.aload_n 0, 1) := by decide +kernel
theorem dX7_sum_39 : decode cX7_sum 39 = .ok (.getfield 33, 3) := by decide +kernel
theorem dX7_sum_42 : decode cX7_sum 42 = .ok (.iload_n 1, 1) := by decide +kernel
theorem dX7_sum_43 : decode cX7_sum 43 = .ok (.invokevirtual 118, 3) := by decide +kernel
theorem dX7_sum_46 : decode cX7_sum 46 = .ok (.lstore_n 3, 1) := by decide +kernel
theorem dX7_sum_47 : decode cX7_sum 47 = .ok (.iload_n 2, 1) := by decide +kernel
theorem dX7_sum_48 : decode cX7_sum 48 = .ok (.iconst (-1), 1) := by decide +kernel
theorem dX7_sum_49 : decode cX7_sum 49 = .ok (.if_icmp .ne 8, 3) := by decide +kernel
theorem dX7_sum_52 : decode cX7_sum 52 = .ok (.lload_n 3, 1) := by decide +kernel
theorem dX7_sum_53 : decode cX7_sum 53 = .ok (.invokestatic 119, 3) := by decide +kernel
theorem dX7_sum_56 : decode cX7_sum 56 = .ok (.ireturn, 1) := by decide +kernel
theorem dX7_sum_57 : decode cX7_sum 57 = .ok (.iload_n 2, 1) := by decide +kernel
theorem dX7_sum_58 : decode cX7_sum 58 = .ok (.lload_n 3, 1) := by decide +kernel
theorem dX7_sum_59 : decode cX7_sum 59 = .ok (.invokestatic 119, 3) := by decide +kernel
theorem dX7_sum_62 : decode cX7_sum 62 = .ok (.if_icmp .ge 11, 3) := by decide +kernel
theorem dX7_sum_65 : decode cX7_sum 65 = .ok (.lload_n 3, 1) := by decide +kernel
theorem dX7_sum_66 : decode cX7_sum 66 = .ok (.iload_n 2, 1) := by decide +kernel
theorem dX7_sum_67 : decode cX7_sum 67 = .ok (.invokestatic 125, 3) := by decide +kernel
theorem dX7_sum_70 : decode cX7_sum 70 = .ok (.goto 5, 3) := by decide +kernel
theorem dX7_sum_73 : decode cX7_sum 73 = .ok (.bipush (-4), 2) := by decide +kernel
theorem dX7_sum_75 : decode cX7_sum 75 = .ok (.ireturn, 1) := by decide +kernel
abbrev po_X7_sum (cI cJ : ClassId) (hX7 : Nat) (aX7_above : Nat) (aX7_below : Nat) (hX3 : Nat) (hX2 : Nat) (hX1 : Nat) (hX6 : Nat) (hX0 : Nat) (hX5 : Nat) (aX1_rows : Nat) (aX1_ones : Nat) (aX1_twos : Nat) (aX1_distances : Nat) (aX1_reached : Nat) (f_swaps : Int) (f_there : Int) (f_size : Int) (f_mostShares : Int) (f_source : Int) (f_looked : Int) (f_ends : Int) (f_rows : Int → Int) (Q : Int → Prop) : Option Value → va_W → Prop := fun rv w1 => ∃ (r0 : Int), rv = some (.int (i32 r0)) ∧ w1 = [(hX7, .inr (6, [.ref aX7_above, .ref aX7_below, .ref hX3, .ref hX2, .ref hX1, .ref hX6, .ref hX0, .ref hX5])), (hX1, .inr (1, [.ref aX1_rows, .ref aX1_ones, .ref aX1_twos, .ref aX1_distances, .ref aX1_reached, .int (i32 f_swaps), .int (i32 f_there), .int (i32 f_size), .int (i32 f_mostShares), .int (i32 f_source), .int (i32 f_looked), .int (i32 f_ends)])), (aX1_rows, aL cJ 2001 f_rows)] ∧ r32 r0 ∧ Q r0
def wp_X7_sum_9 (Q : Int → Prop) (f_rows : Int → Int) (f_there : Int) (f_size : Int) : Prop := Q (-1)
set_option maxHeartbeats 4000000 in
set_option maxRecDepth 100000 in
theorem s_X7_sum_9 {X : Cx} (g : Gd X cX7_sum RX7 (some .int) 5) (hR : X.R = rmL 3 0 0) (hX7 : Nat) (aX7_above : Nat) (aX7_below : Nat) (hX3 : Nat) (hX2 : Nat) (hX1 : Nat) (hX6 : Nat) (hX0 : Nat) (hX5 : Nat) (aX1_rows : Nat) (aX1_ones : Nat) (aX1_twos : Nat) (aX1_distances : Nat) (aX1_reached : Nat) (f_swaps : Int) (f_mostShares : Int) (f_source : Int) (f_looked : Int) (f_ends : Int) (f_rows : Int → Int) (f_there : Int) (f_size : Int) (r_f_rows : rr64 f_rows) (r_f_there : r32 f_there) (r_f_size : r32 f_size) (Q : Int → Prop) (hF : FQ X 0 0 (po_X7_sum X.cI X.cJ hX7 aX7_above aX7_below hX3 hX2 hX1 hX6 hX0 hX5 aX1_rows aX1_ones aX1_twos aX1_distances aX1_reached f_swaps f_there f_size f_mostShares f_source f_looked f_ends f_rows Q)) : wp_X7_sum_9 Q f_rows f_there f_size → Wat X 0 0 9 [] [] [(hX7, .inr (6, [.ref aX7_above, .ref aX7_below, .ref hX3, .ref hX2, .ref hX1, .ref hX6, .ref hX0, .ref hX5])), (hX1, .inr (1, [.ref aX1_rows, .ref aX1_ones, .ref aX1_twos, .ref aX1_distances, .ref aX1_reached, .int (i32 f_swaps), .int (i32 f_there), .int (i32 f_size), .int (i32 f_mostShares), .int (i32 f_source), .int (i32 f_looked), .int (i32 f_ends)])), (aX1_rows, aL X.cJ 2001 f_rows)] := by
  intro h
  rw [wp_X7_sum_9] at h
  refine q_iconst g (-1) dX7_sum_9 ?_
  exact q_iret g hF ⟨(-1), rfl, rfl, (r32_lit _ (by decide)), h⟩ dX7_sum_10
def wp_X7_sum_75 (Q : Int → Prop) (f_rows : Int → Int) (f_there : Int) (f_size : Int) (k0 : Int) : Prop := Q k0
set_option maxHeartbeats 4000000 in
set_option maxRecDepth 100000 in
theorem s_X7_sum_75 {X : Cx} (g : Gd X cX7_sum RX7 (some .int) 5) (hR : X.R = rmL 3 0 0) (hX7 : Nat) (aX7_above : Nat) (aX7_below : Nat) (hX3 : Nat) (hX2 : Nat) (hX1 : Nat) (hX6 : Nat) (hX0 : Nat) (hX5 : Nat) (aX1_rows : Nat) (aX1_ones : Nat) (aX1_twos : Nat) (aX1_distances : Nat) (aX1_reached : Nat) (f_swaps : Int) (f_mostShares : Int) (f_source : Int) (f_looked : Int) (f_ends : Int) (f_rows : Int → Int) (f_there : Int) (f_size : Int) (r_f_rows : rr64 f_rows) (r_f_there : r32 f_there) (r_f_size : r32 f_size) (Q : Int → Prop) (hF : FQ X 0 0 (po_X7_sum X.cI X.cJ hX7 aX7_above aX7_below hX3 hX2 hX1 hX6 hX0 hX5 aX1_rows aX1_ones aX1_twos aX1_distances aX1_reached f_swaps f_there f_size f_mostShares f_source f_looked f_ends f_rows Q)) : ∀ (k0 : Int), r32 k0 → wp_X7_sum_75 Q f_rows f_there f_size k0 → Wat X 0 0 75 [] [.int (i32 k0)] [(hX7, .inr (6, [.ref aX7_above, .ref aX7_below, .ref hX3, .ref hX2, .ref hX1, .ref hX6, .ref hX0, .ref hX5])), (hX1, .inr (1, [.ref aX1_rows, .ref aX1_ones, .ref aX1_twos, .ref aX1_distances, .ref aX1_reached, .int (i32 f_swaps), .int (i32 f_there), .int (i32 f_size), .int (i32 f_mostShares), .int (i32 f_source), .int (i32 f_looked), .int (i32 f_ends)])), (aX1_rows, aL X.cJ 2001 f_rows)] := by
  intro k0 r_k0 h
  rw [wp_X7_sum_75] at h
  exact q_iret g hF ⟨k0, rfl, rfl, r_k0, h⟩ dX7_sum_75
def wp_X7_sum (Q : Int → Prop) (f_rows : Int → Int) (f_there : Int) (f_size : Int) (l1 : Int) (l2 : Int) : Prop := ((l1 < 0 → wp_X7_sum_9 Q f_rows f_there f_size) ∧
  (¬ (l1 < 0) → (((-1) ≤ l2 → wp_X1_isThere (fun (x15 : Int) => ((¬ x15 = 0 → wp_X1_size (fun (x29 : Int) => ((l1 < x29 → wp_X1_at (fun (x43 : Int) => ((¬ l2 = (-1) → wp_J13_bitCount_95d88 (fun (x59 : Int) => ((x59 ≤ l2 → wp_X7_sum_75 Q f_rows f_there f_size (-4)) ∧
  (¬ (x59 ≤ l2) → wp_X4_numberAt (fun (x67 : Int) => wp_X7_sum_75 Q f_rows f_there f_size x67) x43 l2))) x43) ∧
  (l2 = (-1) → wp_J13_bitCount_95d88 (fun (x53 : Int) => Q x53) x43))) f_rows l1) ∧
  (¬ (l1 < x29) → Q (-4)))) f_size) ∧
  (x15 = 0 → Q (-2)))) f_there) ∧
  (¬ ((-1) ≤ l2) → wp_X7_sum_9 Q f_rows f_there f_size))))
set_option maxHeartbeats 4000000 in
set_option maxRecDepth 100000 in
theorem c_X7_sum (l : Launch) (D : va_G) (cI cJ : ClassId) (zt : Nat) (hX7 : Nat) (aX7_above : Nat) (aX7_below : Nat) (hX3 : Nat) (hX2 : Nat) (hX1 : Nat) (hX6 : Nat) (hX0 : Nat) (hX5 : Nat) (aX1_rows : Nat) (aX1_ones : Nat) (aX1_twos : Nat) (aX1_distances : Nat) (aX1_reached : Nat) (f_swaps : Int) (f_there : Int) (f_size : Int) (f_mostShares : Int) (f_source : Int) (f_looked : Int) (f_ends : Int) (f_rows : Int → Int) (l1 : Int) (l2 : Int) (Q : Int → Prop) (r_f_rows : rr64 f_rows) (r_f_there : r32 f_there) (r_f_size : r32 f_size) (r_l1 : r32 l1) (r_l2 : r32 l2) (h : wp_X7_sum Q f_rows f_there f_size l1 l2) : Ct l D cI cJ zt yX7_sum cX7_sum 5 (some .int) 3 0 0 [.ref hX7, .int (i32 l1), .int (i32 l2)] [(hX7, .inr (6, [.ref aX7_above, .ref aX7_below, .ref hX3, .ref hX2, .ref hX1, .ref hX6, .ref hX0, .ref hX5])), (hX1, .inr (1, [.ref aX1_rows, .ref aX1_ones, .ref aX1_twos, .ref aX1_distances, .ref aX1_reached, .int (i32 f_swaps), .int (i32 f_there), .int (i32 f_size), .int (i32 f_mostShares), .int (i32 f_source), .int (i32 f_looked), .int (i32 f_ends)])), (aX1_rows, aL cJ 2001 f_rows)] (po_X7_sum cI cJ hX7 aX7_above aX7_below hX3 hX2 hX1 hX6 hX0 hX5 aX1_rows aX1_ones aX1_twos aX1_distances aX1_reached f_swaps f_there f_size f_mostShares f_source f_looked f_ends f_rows Q) := by
  refine ct_of (by decide +kernel) (Nat.le_of_ble_eq_true rfl) (fun X hl hDD hcI hcJ hzt hR hF hnm g => ?_)
  subst hl; subst hDD; subst hcI; subst hcJ; subst hzt
  show Wat X 0 0 0 [(0, .ref hX7), (1, .int (i32 l1)), (2, .int (i32 l2))] [] [(hX7, .inr (6, [.ref aX7_above, .ref aX7_below, .ref hX3, .ref hX2, .ref hX1, .ref hX6, .ref hX0, .ref hX5])), (hX1, .inr (1, [.ref aX1_rows, .ref aX1_ones, .ref aX1_twos, .ref aX1_distances, .ref aX1_reached, .int (i32 f_swaps), .int (i32 f_there), .int (i32 f_size), .int (i32 f_mostShares), .int (i32 f_source), .int (i32 f_looked), .int (i32 f_ends)])), (aX1_rows, aL X.cJ 2001 f_rows)]
  replace g : Gd X cX7_sum RX7 (some .int) 5 := g
  rw [wp_X7_sum] at h
  refine q_iload_n g 1 1 rfl dX7_sum_0 ?_
  refine q_if_lt g (8) 9 r_l1 (by decide) dX7_sum_1 (fun b1 => ?_) (fun b1 => ?_)
  · replace h := h.1 b1
    refine q_lv (lv' := []) [] rfl ?_
    exact s_X7_sum_9 g hR hX7 aX7_above aX7_below hX3 hX2 hX1 hX6 hX0 hX5 aX1_rows aX1_ones aX1_twos aX1_distances aX1_reached f_swaps f_mostShares f_source f_looked f_ends f_rows f_there f_size r_f_rows r_f_there r_f_size Q hF h
  replace h := h.2 b1
  refine q_iload_n g 2 2 rfl dX7_sum_4 ?_
  refine q_iconst g (-1) dX7_sum_5 ?_
  refine q_icmp_ge g (5) 11 r_l2 (r32_lit _ (by decide)) (by decide) dX7_sum_6 (fun b6 => ?_) (fun b6 => ?_)
  · replace h := h.1 b6
    refine q_aload_n g 0 0 rfl dX7_sum_11 ?_
    refine q_get (C := RX7) (T := TX7) (N := 8) g 33 inX7 0 4 rfl rfl (by decide) wF_X7_33 rfl dX7_sum_12 ?_
    refine q_callV (lev := 1) (mc := 0) (ms := 0) g 110 (c_X1_isThere X.l X.D X.cI X.cJ X.zt hX1 aX1_rows aX1_ones aX1_twos aX1_distances aX1_reached f_swaps f_there f_size f_mostShares f_source f_looked f_ends _ r_f_there h) (wr := [(hX7, .inr (6, [.ref aX7_above, .ref aX7_below, .ref hX3, .ref hX2, .ref hX1, .ref hX6, .ref hX0, .ref hX5])), (aX1_rows, aL X.cJ 2001 f_rows)]) [1] [0, 2] rfl rfl rfl (by decide) (by decide) (by decide) (ci := 1) rfl rfl rfl wM_X7_110 wI_X1_isThere wS_X1_isThere wZ_X1 wC_X1_isThere 0 rfl (by decide +kernel) (by rw [hR]; exact ⟨by show 1 + 1 ≤ 3; omega, by show 8 + (1 + 11) + 100 * 1 ≤ 100 * 3; omega⟩) (by rw [hR]; exact ⟨Nat.le_refl _, Nat.le_refl _⟩) (Nat.le_of_ble_eq_true rfl) rfl dX7_sum_15 (fun rv w1 hq => ?_)
    obtain ⟨x15, rfl, rfl, rx15, h⟩ := hq
    refine q_ws (ws' := [(hX7, .inr (6, [.ref aX7_above, .ref aX7_below, .ref hX3, .ref hX2, .ref hX1, .ref hX6, .ref hX0, .ref hX5])), (hX1, .inr (1, [.ref aX1_rows, .ref aX1_ones, .ref aX1_twos, .ref aX1_distances, .ref aX1_reached, .int (i32 f_swaps), .int (i32 f_there), .int (i32 f_size), .int (i32 f_mostShares), .int (i32 f_source), .int (i32 f_looked), .int (i32 f_ends)])), (aX1_rows, aL X.cJ 2001 f_rows)]) [0, 2, 1] (by decide) rfl rfl ?_
    show Wat X 0 0 18 [(0, .ref hX7), (1, .int (i32 l1)), (2, .int (i32 l2))] [.int (i32 x15)] [(hX7, .inr (6, [.ref aX7_above, .ref aX7_below, .ref hX3, .ref hX2, .ref hX1, .ref hX6, .ref hX0, .ref hX5])), (hX1, .inr (1, [.ref aX1_rows, .ref aX1_ones, .ref aX1_twos, .ref aX1_distances, .ref aX1_reached, .int (i32 f_swaps), .int (i32 f_there), .int (i32 f_size), .int (i32 f_mostShares), .int (i32 f_source), .int (i32 f_looked), .int (i32 f_ends)])), (aX1_rows, aL X.cJ 2001 f_rows)]
    refine q_if_ne g (6) 24 rx15 (by decide) dX7_sum_18 (fun b18 => ?_) (fun b18 => ?_)
    · replace h := h.1 b18
      refine q_iload_n g 1 1 rfl dX7_sum_24 ?_
      refine q_aload_n g 0 0 rfl dX7_sum_25 ?_
      refine q_get (C := RX7) (T := TX7) (N := 8) g 33 inX7 0 4 rfl rfl (by decide) wF_X7_33 rfl dX7_sum_26 ?_
      refine q_callV (lev := 1) (mc := 0) (ms := 0) g 114 (c_X1_size X.l X.D X.cI X.cJ X.zt hX1 aX1_rows aX1_ones aX1_twos aX1_distances aX1_reached f_swaps f_there f_size f_mostShares f_source f_looked f_ends _ r_f_size h) (wr := [(hX7, .inr (6, [.ref aX7_above, .ref aX7_below, .ref hX3, .ref hX2, .ref hX1, .ref hX6, .ref hX0, .ref hX5])), (aX1_rows, aL X.cJ 2001 f_rows)]) [1] [0, 2] rfl rfl rfl (by decide) (by decide) (by decide) (ci := 1) rfl rfl rfl wM_X7_114 wI_X1_size wS_X1_size wZ_X1 wC_X1_size 0 rfl (by decide +kernel) (by rw [hR]; exact ⟨by show 1 + 1 ≤ 3; omega, by show 8 + (1 + 11) + 100 * 1 ≤ 100 * 3; omega⟩) (by rw [hR]; exact ⟨Nat.le_refl _, Nat.le_refl _⟩) (Nat.le_of_ble_eq_true rfl) rfl dX7_sum_29 (fun rv w1 hq => ?_)
      obtain ⟨x29, rfl, rfl, rx29, h⟩ := hq
      refine q_ws (ws' := [(hX7, .inr (6, [.ref aX7_above, .ref aX7_below, .ref hX3, .ref hX2, .ref hX1, .ref hX6, .ref hX0, .ref hX5])), (hX1, .inr (1, [.ref aX1_rows, .ref aX1_ones, .ref aX1_twos, .ref aX1_distances, .ref aX1_reached, .int (i32 f_swaps), .int (i32 f_there), .int (i32 f_size), .int (i32 f_mostShares), .int (i32 f_source), .int (i32 f_looked), .int (i32 f_ends)])), (aX1_rows, aL X.cJ 2001 f_rows)]) [0, 2, 1] (by decide) rfl rfl ?_
      show Wat X 0 0 32 [(0, .ref hX7), (1, .int (i32 l1)), (2, .int (i32 l2))] [.int (i32 x29), .int (i32 l1)] [(hX7, .inr (6, [.ref aX7_above, .ref aX7_below, .ref hX3, .ref hX2, .ref hX1, .ref hX6, .ref hX0, .ref hX5])), (hX1, .inr (1, [.ref aX1_rows, .ref aX1_ones, .ref aX1_twos, .ref aX1_distances, .ref aX1_reached, .int (i32 f_swaps), .int (i32 f_there), .int (i32 f_size), .int (i32 f_mostShares), .int (i32 f_source), .int (i32 f_looked), .int (i32 f_ends)])), (aX1_rows, aL X.cJ 2001 f_rows)]
      refine q_icmp_lt g (6) 38 r_l1 rx29 (by decide) dX7_sum_32 (fun b32 => ?_) (fun b32 => ?_)
      · replace h := h.1 b32
        refine q_aload_n g 0 0 rfl dX7_sum_38 ?_
        refine q_get (C := RX7) (T := TX7) (N := 8) g 33 inX7 0 4 rfl rfl (by decide) wF_X7_33 rfl dX7_sum_39 ?_
        refine q_iload_n g 1 1 rfl dX7_sum_42 ?_
        refine q_callV (lev := 1) (mc := 0) (ms := 0) g 118 (c_X1_at X.l X.D X.cI X.cJ X.zt hX1 aX1_rows aX1_ones aX1_twos aX1_distances aX1_reached f_swaps f_there f_size f_mostShares f_source f_looked f_ends f_rows l1 _ r_f_rows r_l1 h) (wr := [(hX7, .inr (6, [.ref aX7_above, .ref aX7_below, .ref hX3, .ref hX2, .ref hX1, .ref hX6, .ref hX0, .ref hX5]))]) [1, 2] [0] rfl rfl rfl (by decide) (by decide) (by decide) (ci := 1) rfl rfl rfl wM_X7_118 wI_X1_at wS_X1_at wZ_X1 wC_X1_at 1 rfl (by decide +kernel) (by rw [hR]; exact ⟨by show 1 + 1 ≤ 3; omega, by show 8 + (2 + 11) + 100 * 1 ≤ 100 * 3; omega⟩) (by rw [hR]; exact ⟨Nat.le_refl _, Nat.le_refl _⟩) (Nat.le_of_ble_eq_true rfl) rfl dX7_sum_43 (fun rv w1 hq => ?_)
        obtain ⟨x43, rfl, rfl, rx43, h⟩ := hq
        show Wat X 0 0 46 [(0, .ref hX7), (1, .int (i32 l1)), (2, .int (i32 l2))] [.long (i64 x43)] [(hX7, .inr (6, [.ref aX7_above, .ref aX7_below, .ref hX3, .ref hX2, .ref hX1, .ref hX6, .ref hX0, .ref hX5])), (hX1, .inr (1, [.ref aX1_rows, .ref aX1_ones, .ref aX1_twos, .ref aX1_distances, .ref aX1_reached, .int (i32 f_swaps), .int (i32 f_there), .int (i32 f_size), .int (i32 f_mostShares), .int (i32 f_source), .int (i32 f_looked), .int (i32 f_ends)])), (aX1_rows, aL X.cJ 2001 f_rows)]
        refine q_lstore_n (lv' := [(3, .long (i64 x43)), (0, .ref hX7), (1, .int (i32 l1)), (2, .int (i32 l2))]) g 3 3 rfl (by decide) rfl dX7_sum_46 ?_
        refine q_iload_n g 2 3 rfl dX7_sum_47 ?_
        refine q_iconst g (-1) dX7_sum_48 ?_
        refine q_icmp_ne g (8) 57 r_l2 (r32_lit _ (by decide)) (by decide) dX7_sum_49 (fun b49 => ?_) (fun b49 => ?_)
        · replace h := h.1 b49
          refine q_iload_n g 2 3 rfl dX7_sum_57 ?_
          refine q_lload_n g 3 0 rfl dX7_sum_58 ?_
          refine q_callS (lev := 1) (mc := 0) (ms := 0) (As := [.long (i64 x43)]) g 119 (c_J13_bitCount_95d88 X.l X.D X.cI X.cJ X.zt x43 _ rx43 h) (wr := [(hX7, .inr (6, [.ref aX7_above, .ref aX7_below, .ref hX3, .ref hX2, .ref hX1, .ref hX6, .ref hX0, .ref hX5])), (hX1, .inr (1, [.ref aX1_rows, .ref aX1_ones, .ref aX1_twos, .ref aX1_distances, .ref aX1_reached, .int (i32 f_swaps), .int (i32 f_there), .int (i32 f_size), .int (i32 f_mostShares), .int (i32 f_source), .int (i32 f_looked), .int (i32 f_ends)])), (aX1_rows, aL X.cJ 2001 f_rows)]) [] [0, 1, 2] rfl rfl rfl (by decide) (by decide) (by decide) wM_X7_119 wT_J13_bitCount_95d88 wZ_J13 wC_J13_bitCount_95d88 1 rfl (by decide +kernel) (by rw [hR]; exact ⟨by show 1 + 1 ≤ 3; omega, by show 8 + (2 + 11) + 100 * 1 ≤ 100 * 3; omega⟩) (by rw [hR]; exact ⟨Nat.le_refl _, Nat.le_refl _⟩) (Nat.le_of_ble_eq_true rfl) rfl dX7_sum_59 (fun rv w1 hq => ?_)
          obtain ⟨x59, rfl, rfl, rx59, h⟩ := hq
          show Wat X 0 0 62 [(3, .long (i64 x43)), (0, .ref hX7), (1, .int (i32 l1)), (2, .int (i32 l2))] [.int (i32 x59), .int (i32 l2)] [(hX7, .inr (6, [.ref aX7_above, .ref aX7_below, .ref hX3, .ref hX2, .ref hX1, .ref hX6, .ref hX0, .ref hX5])), (hX1, .inr (1, [.ref aX1_rows, .ref aX1_ones, .ref aX1_twos, .ref aX1_distances, .ref aX1_reached, .int (i32 f_swaps), .int (i32 f_there), .int (i32 f_size), .int (i32 f_mostShares), .int (i32 f_source), .int (i32 f_looked), .int (i32 f_ends)])), (aX1_rows, aL X.cJ 2001 f_rows)]
          refine q_icmp_ge g (11) 73 r_l2 rx59 (by decide) dX7_sum_62 (fun b62 => ?_) (fun b62 => ?_)
          · replace h := h.1 b62
            refine q_bipush g (-4) (by decide) (by decide) dX7_sum_73 ?_
            refine q_lv (lv' := []) [] rfl ?_
            exact s_X7_sum_75 g hR hX7 aX7_above aX7_below hX3 hX2 hX1 hX6 hX0 hX5 aX1_rows aX1_ones aX1_twos aX1_distances aX1_reached f_swaps f_mostShares f_source f_looked f_ends f_rows f_there f_size r_f_rows r_f_there r_f_size Q hF (-4) (r32_lit _ (by decide)) h
          replace h := h.2 b62
          refine q_lload_n g 3 0 rfl dX7_sum_65 ?_
          refine q_iload_n g 2 3 rfl dX7_sum_66 ?_
          refine q_callS (lev := 2) (mc := 0) (ms := 0) (As := [.long (i64 x43), .int (i32 l2)]) g 125 (c_X4_numberAt X.l X.D X.cI X.cJ X.zt x43 l2 _ rx43 r_l2 h) (wr := [(hX7, .inr (6, [.ref aX7_above, .ref aX7_below, .ref hX3, .ref hX2, .ref hX1, .ref hX6, .ref hX0, .ref hX5])), (hX1, .inr (1, [.ref aX1_rows, .ref aX1_ones, .ref aX1_twos, .ref aX1_distances, .ref aX1_reached, .int (i32 f_swaps), .int (i32 f_there), .int (i32 f_size), .int (i32 f_mostShares), .int (i32 f_source), .int (i32 f_looked), .int (i32 f_ends)])), (aX1_rows, aL X.cJ 2001 f_rows)]) [] [0, 1, 2] rfl rfl rfl (by decide) (by decide) (by decide) wM_X7_125 wT_X4_numberAt wZ_X4 wC_X4_numberAt 2 rfl (by decide +kernel) (by rw [hR]; exact ⟨by show 2 + 1 ≤ 3; omega, by show 8 + (5 + 11) + 100 * 2 ≤ 100 * 3; omega⟩) (by rw [hR]; exact ⟨Nat.le_refl _, Nat.le_refl _⟩) (Nat.le_of_ble_eq_true rfl) rfl dX7_sum_67 (fun rv w1 hq => ?_)
          obtain ⟨x67, rfl, rfl, rx67, h⟩ := hq
          show Wat X 0 0 70 [(3, .long (i64 x43)), (0, .ref hX7), (1, .int (i32 l1)), (2, .int (i32 l2))] [.int (i32 x67)] [(hX7, .inr (6, [.ref aX7_above, .ref aX7_below, .ref hX3, .ref hX2, .ref hX1, .ref hX6, .ref hX0, .ref hX5])), (hX1, .inr (1, [.ref aX1_rows, .ref aX1_ones, .ref aX1_twos, .ref aX1_distances, .ref aX1_reached, .int (i32 f_swaps), .int (i32 f_there), .int (i32 f_size), .int (i32 f_mostShares), .int (i32 f_source), .int (i32 f_looked), .int (i32 f_ends)])), (aX1_rows, aL X.cJ 2001 f_rows)]
          refine q_goto g (5) 75 (by decide) dX7_sum_70 ?_
          refine q_lv (lv' := []) [] rfl ?_
          exact s_X7_sum_75 g hR hX7 aX7_above aX7_below hX3 hX2 hX1 hX6 hX0 hX5 aX1_rows aX1_ones aX1_twos aX1_distances aX1_reached f_swaps f_mostShares f_source f_looked f_ends f_rows f_there f_size r_f_rows r_f_there r_f_size Q hF x67 rx67 h
        replace h := h.2 b49
        refine q_lload_n g 3 0 rfl dX7_sum_52 ?_
        refine q_callS (lev := 1) (mc := 0) (ms := 0) (As := [.long (i64 x43)]) g 119 (c_J13_bitCount_95d88 X.l X.D X.cI X.cJ X.zt x43 _ rx43 h) (wr := [(hX7, .inr (6, [.ref aX7_above, .ref aX7_below, .ref hX3, .ref hX2, .ref hX1, .ref hX6, .ref hX0, .ref hX5])), (hX1, .inr (1, [.ref aX1_rows, .ref aX1_ones, .ref aX1_twos, .ref aX1_distances, .ref aX1_reached, .int (i32 f_swaps), .int (i32 f_there), .int (i32 f_size), .int (i32 f_mostShares), .int (i32 f_source), .int (i32 f_looked), .int (i32 f_ends)])), (aX1_rows, aL X.cJ 2001 f_rows)]) [] [0, 1, 2] rfl rfl rfl (by decide) (by decide) (by decide) wM_X7_119 wT_J13_bitCount_95d88 wZ_J13 wC_J13_bitCount_95d88 1 rfl (by decide +kernel) (by rw [hR]; exact ⟨by show 1 + 1 ≤ 3; omega, by show 8 + (2 + 11) + 100 * 1 ≤ 100 * 3; omega⟩) (by rw [hR]; exact ⟨Nat.le_refl _, Nat.le_refl _⟩) (Nat.le_of_ble_eq_true rfl) rfl dX7_sum_53 (fun rv w1 hq => ?_)
        obtain ⟨x53, rfl, rfl, rx53, h⟩ := hq
        show Wat X 0 0 56 [(3, .long (i64 x43)), (0, .ref hX7), (1, .int (i32 l1)), (2, .int (i32 l2))] [.int (i32 x53)] [(hX7, .inr (6, [.ref aX7_above, .ref aX7_below, .ref hX3, .ref hX2, .ref hX1, .ref hX6, .ref hX0, .ref hX5])), (hX1, .inr (1, [.ref aX1_rows, .ref aX1_ones, .ref aX1_twos, .ref aX1_distances, .ref aX1_reached, .int (i32 f_swaps), .int (i32 f_there), .int (i32 f_size), .int (i32 f_mostShares), .int (i32 f_source), .int (i32 f_looked), .int (i32 f_ends)])), (aX1_rows, aL X.cJ 2001 f_rows)]
        exact q_iret g hF ⟨x53, rfl, rfl, rx53, h⟩ dX7_sum_56
      replace h := h.2 b32
      refine q_bipush g (-4) (by decide) (by decide) dX7_sum_35 ?_
      exact q_iret g hF ⟨(-4), rfl, rfl, (r32_lit _ (by decide)), h⟩ dX7_sum_37
    replace h := h.2 b18
    refine q_bipush g (-2) (by decide) (by decide) dX7_sum_21 ?_
    exact q_iret g hF ⟨(-2), rfl, rfl, (r32_lit _ (by decide)), h⟩ dX7_sum_23
  replace h := h.2 b6
  refine q_lv (lv' := []) [] rfl ?_
  exact s_X7_sum_9 g hR hX7 aX7_above aX7_below hX3 hX2 hX1 hX6 hX0 hX5 aX1_rows aX1_ones aX1_twos aX1_distances aX1_reached f_swaps f_mostShares f_source f_looked f_ends f_rows f_there f_size r_f_rows r_f_there r_f_size Q hF h
theorem dX7_sums_0 : decode cX7_sums 0 = .ok (.iload_n 1, 1) := by decide +kernel
theorem dX7_sums_1 : decode cX7_sums 1 = .ok (.invokestatic 64, 3) := by decide +kernel
theorem dX7_sums_4 : decode cX7_sums 4 = .ok (.ifCond .eq 25, 3) := by decide +kernel
theorem dX7_sums_7 : decode cX7_sums 7 = .ok (.iload_n 2, 1) := by decide +kernel
theorem dX7_sums_8 : decode cX7_sums 8 = .ok (.iconst 2, 1) := by decide +kernel
theorem dX7_sums_9 : decode cX7_sums 9 = .ok (.if_icmp .lt 20, 3) := by decide +kernel
theorem dX7_sums_12 : decode cX7_sums 12 = .ok (.iload_n 2, 1) := by decide +kernel
theorem dX7_sums_13 : decode cX7_sums 13 = .ok (.bipush 60, 2) := by decide +kernel
theorem dX7_sums_15 : decode cX7_sums 15 = .ok (.if_icmp .gt 14, 3) := by decide +kernel
theorem dX7_sums_18 : decode cX7_sums 18 = .ok (.iload_n 3, 1) := by decide +kernel
theorem dX7_sums_19 : decode cX7_sums 19 = .ok (.iconst 1, 1) := by decide +kernel
theorem dX7_sums_20 : decode cX7_sums 20 = .ok (.if_icmp .lt 9, 3) := by decide +kernel
theorem dX7_sums_23 : decode cX7_sums 23 = .ok (.iload_n 3, 1) := by decide +kernel
theorem dX7_sums_24 : decode cX7_sums 24 = .ok (.bipush 6, 2) := by decide +kernel
theorem dX7_sums_26 : decode cX7_sums 26 = .ok (.if_icmp .le 5, 3) := by decide +kernel
theorem dX7_sums_29 : decode cX7_sums 29 = .ok (.iconst (-1), 1) := by decide +kernel
theorem dX7_sums_30 : decode cX7_sums 30 = .ok (.ireturn, 1) := by decide +kernel
theorem dX7_sums_31 : decode cX7_sums 31 = .ok (.aload_n 0, 1) := by decide +kernel
theorem dX7_sums_32 : decode cX7_sums 32 = .ok (.iload_n 1, 1) := by decide +kernel
theorem dX7_sums_33 : decode cX7_sums 33 = .ok (.invokevirtual 91, 3) := by decide +kernel
theorem dX7_sums_36 : decode cX7_sums 36 = .ok (.ifCond .ne 6, 3) := by decide +kernel
theorem dX7_sums_39 : decode cX7_sums 39 = .ok (.bipush (-2), 2) := by decide +kernel
theorem dX7_sums_41 : decode cX7_sums 41 = .ok (.ireturn, 1) := by decide +kernel
theorem dX7_sums_42 : decode cX7_sums 42 = .ok (.aload_n 0, 1) := by decide +kernel
theorem dX7_sums_43 : decode cX7_sums 43 = .ok (.getfield 26, 3) := by decide +kernel
theorem dX7_sums_46 : decode cX7_sums 46 = .ok (.aload_n 0, 1) := by decide +kernel
theorem dX7_sums_47 : decode cX7_sums 47 = .ok (.getfield 9, 3) := by decide +kernel
theorem dX7_sums_50 : decode cX7_sums 50 = .ok (.iload_n 1, 1) := by decide +kernel
theorem dX7_sums_51 : decode cX7_sums 51 = .ok (.iaload, 1) := by decide +kernel
theorem dX7_sums_52 : decode cX7_sums 52 = .ok (.aload_n 0, 1) := by decide +kernel
theorem dX7_sums_53 : decode cX7_sums 53 = .ok (.getfield 13, 3) := by decide +kernel
theorem dX7_sums_56 : decode cX7_sums 56 = .ok (.iload_n 1, 1) := by decide +kernel
theorem dX7_sums_57 : decode cX7_sums 57 = .ok (.iaload, 1) := by decide +kernel
theorem dX7_sums_58 : decode cX7_sums 58 = .ok (.iload_n 2, 1) := by decide +kernel
theorem dX7_sums_59 : decode cX7_sums 59 = .ok (.invokevirtual 94, 3) := by decide +kernel
theorem dX7_sums_62 : decode cX7_sums 62 = .ok (.aload_n 0, 1) := by decide +kernel
theorem dX7_sums_63 : decode cX7_sums 63 = .ok (.getfield 33, 3) := by decide +kernel
theorem dX7_sums_66 : decode cX7_sums 66 = .ok (.aload_n 0, 1) := by decide +kernel
theorem dX7_sums_67 : decode cX7_sums 67 = .ok (.getfield 26, 3) := by decide +kernel
theorem dX7_sums_70 : decode cX7_sums 70 = .ok (.iload_n 3, 1) := by decide +kernel
theorem dX7_sums_71 : decode cX7_sums 71 = .ok (.aload_n 0, 1) := by decide +kernel
theorem dX7_sums_72 : decode cX7_sums 72 = .ok (.getfield 33, 3) := by decide +kernel
theorem dX7_sums_75 : decode cX7_sums 75 = .ok (.invokevirtual 98, 3) := by decide +kernel
theorem dX7_sums_78 : decode cX7_sums 78 = .ok (.invokevirtual 102, 3) := by decide +kernel
theorem dX7_sums_81 : decode cX7_sums 81 = .ok (.iload_n 3, 1) := by decide +kernel
theorem dX7_sums_82 : decode cX7_sums 82 = .ok (.invokevirtual 106, 3) := by decide +kernel
theorem dX7_sums_85 : decode cX7_sums 85 = .ok (.ireturn, 1) := by decide +kernel
abbrev po_X7_sums (cI cJ : ClassId) (hX7 : Nat) (aX7_above : Nat) (aX7_below : Nat) (hX3 : Nat) (hX2 : Nat) (hX1 : Nat) (hX6 : Nat) (hX0 : Nat) (hX5 : Nat) (aX2_tried : Nat) (aX2_triedLeave : Nat) (aX2_numbers : Nat) (aX2_weights : Nat) (aX2_weightsAhead : Nat) (aX2_grains : Nat) (aX2_placeFrom : Nat) (aX2_first : Nat) (aX1_rows : Nat) (aX1_ones : Nat) (aX1_twos : Nat) (aX1_distances : Nat) (aX1_reached : Nat) (f_swaps : Int) (f_looked : Int) (f_ends : Int) (s_above : Int → Int) (s_below : Int → Int) (Q : Int → (Int → Int) → (Int → Int) → (Int → Int) → (Int → Int) → (Int → Int) → (Int → Int) → (Int → Int) → Int → Int → Int → Int → Int → Int → (Int → Int) → Int → Int → Int → Int → Prop) : Option Value → va_W → Prop := fun rv w1 => ∃ (r0 : Int) (n_tried : Int → Int) (n_triedLeave : Int → Int) (n_numbers : Int → Int) (n_weights : Int → Int) (n_weightsAhead : Int → Int) (n_grains : Int → Int) (n_placeFrom : Int → Int) (n_barred : Int) (n_limit : Int) (n_size : Int) (n_parts : Int) (n_wanted : Int) (n_found : Int) (f_rows : Int → Int) (f_there : Int) (f_size : Int) (f_mostShares : Int) (f_source : Int), rv = some (.int (i32 r0)) ∧ w1 = [(hX7, .inr (6, [.ref aX7_above, .ref aX7_below, .ref hX3, .ref hX2, .ref hX1, .ref hX6, .ref hX0, .ref hX5])), (hX2, .inr (2, [.ref aX2_tried, .ref aX2_triedLeave, .ref aX2_numbers, .ref aX2_weights, .ref aX2_weightsAhead, .ref aX2_grains, .ref aX2_placeFrom, .ref aX2_first, .long (i64 n_barred), .int (i32 n_limit), .int (i32 n_size), .long (i64 n_parts), .long (i64 n_wanted), .int (i32 n_found)])), (hX1, .inr (1, [.ref aX1_rows, .ref aX1_ones, .ref aX1_twos, .ref aX1_distances, .ref aX1_reached, .int (i32 f_swaps), .int (i32 f_there), .int (i32 f_size), .int (i32 f_mostShares), .int (i32 f_source), .int (i32 f_looked), .int (i32 f_ends)])), (aX7_above, aI cI 8 s_above), (aX7_below, aI cI 8 s_below), (aX2_tried, aI cI 5 n_tried), (aX2_triedLeave, aL cJ 5 n_triedLeave), (aX2_numbers, aI cI 60 n_numbers), (aX2_weights, aL cJ 60 n_weights), (aX2_weightsAhead, aL cJ 61 n_weightsAhead), (aX2_grains, aL cJ 61 n_grains), (aX2_placeFrom, aI cI 61 n_placeFrom), (aX1_rows, aL cJ 2001 f_rows)] ∧ r32 r0 ∧ rr32 n_tried ∧ rr64 n_triedLeave ∧ rr32 n_numbers ∧ rr64 n_weights ∧ rr64 n_weightsAhead ∧ rr64 n_grains ∧ rr32 n_placeFrom ∧ r64 n_barred ∧ r32 n_limit ∧ r32 n_size ∧ r64 n_parts ∧ r64 n_wanted ∧ r32 n_found ∧ rr64 f_rows ∧ r32 f_there ∧ r32 f_size ∧ r32 f_mostShares ∧ r32 f_source ∧ Q r0 n_tried n_triedLeave n_numbers n_weights n_weightsAhead n_grains n_placeFrom n_barred n_limit n_size n_parts n_wanted n_found f_rows f_there f_size f_mostShares f_source
def wp_X7_sums_29 (Q : Int → (Int → Int) → (Int → Int) → (Int → Int) → (Int → Int) → (Int → Int) → (Int → Int) → (Int → Int) → Int → Int → Int → Int → Int → Int → (Int → Int) → Int → Int → Int → Int → Prop) (s_above : Int → Int) (s_below : Int → Int) (n_tried : Int → Int) (n_triedLeave : Int → Int) (n_numbers : Int → Int) (n_weights : Int → Int) (n_weightsAhead : Int → Int) (n_grains : Int → Int) (n_placeFrom : Int → Int) (n_barred : Int) (n_limit : Int) (n_size : Int) (n_parts : Int) (n_wanted : Int) (n_found : Int) (f_rows : Int → Int) (f_there : Int) (f_size : Int) (f_mostShares : Int) (f_source : Int) : Prop := Q (-1) n_tried n_triedLeave n_numbers n_weights n_weightsAhead n_grains n_placeFrom n_barred n_limit n_size n_parts n_wanted n_found f_rows f_there f_size f_mostShares f_source
set_option maxHeartbeats 4000000 in
set_option maxRecDepth 100000 in
theorem s_X7_sums_29 {X : Cx} (g : Gd X cX7_sums RX7 (some .int) 4) (hR : X.R = rmL 13 0 0) (hX7 : Nat) (aX7_above : Nat) (aX7_below : Nat) (hX3 : Nat) (hX2 : Nat) (hX1 : Nat) (hX6 : Nat) (hX0 : Nat) (hX5 : Nat) (aX2_tried : Nat) (aX2_triedLeave : Nat) (aX2_numbers : Nat) (aX2_weights : Nat) (aX2_weightsAhead : Nat) (aX2_grains : Nat) (aX2_placeFrom : Nat) (aX2_first : Nat) (aX1_rows : Nat) (aX1_ones : Nat) (aX1_twos : Nat) (aX1_distances : Nat) (aX1_reached : Nat) (f_swaps : Int) (f_looked : Int) (f_ends : Int) (s_above : Int → Int) (s_below : Int → Int) (r_s_above : rr32 s_above) (r_s_below : rr32 s_below) (Q : Int → (Int → Int) → (Int → Int) → (Int → Int) → (Int → Int) → (Int → Int) → (Int → Int) → (Int → Int) → Int → Int → Int → Int → Int → Int → (Int → Int) → Int → Int → Int → Int → Prop) (hF : FQ X 0 0 (po_X7_sums X.cI X.cJ hX7 aX7_above aX7_below hX3 hX2 hX1 hX6 hX0 hX5 aX2_tried aX2_triedLeave aX2_numbers aX2_weights aX2_weightsAhead aX2_grains aX2_placeFrom aX2_first aX1_rows aX1_ones aX1_twos aX1_distances aX1_reached f_swaps f_looked f_ends s_above s_below Q)) : ∀ (n_tried : Int → Int) (n_triedLeave : Int → Int) (n_numbers : Int → Int) (n_weights : Int → Int) (n_weightsAhead : Int → Int) (n_grains : Int → Int) (n_placeFrom : Int → Int) (n_barred : Int) (n_limit : Int) (n_size : Int) (n_parts : Int) (n_wanted : Int) (n_found : Int) (f_rows : Int → Int) (f_there : Int) (f_size : Int) (f_mostShares : Int) (f_source : Int), rr32 n_tried → rr64 n_triedLeave → rr32 n_numbers → rr64 n_weights → rr64 n_weightsAhead → rr64 n_grains → rr32 n_placeFrom → r64 n_barred → r32 n_limit → r32 n_size → r64 n_parts → r64 n_wanted → r32 n_found → rr64 f_rows → r32 f_there → r32 f_size → r32 f_mostShares → r32 f_source → wp_X7_sums_29 Q s_above s_below n_tried n_triedLeave n_numbers n_weights n_weightsAhead n_grains n_placeFrom n_barred n_limit n_size n_parts n_wanted n_found f_rows f_there f_size f_mostShares f_source → Wat X 0 0 29 [] [] [(hX7, .inr (6, [.ref aX7_above, .ref aX7_below, .ref hX3, .ref hX2, .ref hX1, .ref hX6, .ref hX0, .ref hX5])), (hX2, .inr (2, [.ref aX2_tried, .ref aX2_triedLeave, .ref aX2_numbers, .ref aX2_weights, .ref aX2_weightsAhead, .ref aX2_grains, .ref aX2_placeFrom, .ref aX2_first, .long (i64 n_barred), .int (i32 n_limit), .int (i32 n_size), .long (i64 n_parts), .long (i64 n_wanted), .int (i32 n_found)])), (hX1, .inr (1, [.ref aX1_rows, .ref aX1_ones, .ref aX1_twos, .ref aX1_distances, .ref aX1_reached, .int (i32 f_swaps), .int (i32 f_there), .int (i32 f_size), .int (i32 f_mostShares), .int (i32 f_source), .int (i32 f_looked), .int (i32 f_ends)])), (aX7_above, aI X.cI 8 s_above), (aX7_below, aI X.cI 8 s_below), (aX2_tried, aI X.cI 5 n_tried), (aX2_triedLeave, aL X.cJ 5 n_triedLeave), (aX2_numbers, aI X.cI 60 n_numbers), (aX2_weights, aL X.cJ 60 n_weights), (aX2_weightsAhead, aL X.cJ 61 n_weightsAhead), (aX2_grains, aL X.cJ 61 n_grains), (aX2_placeFrom, aI X.cI 61 n_placeFrom), (aX1_rows, aL X.cJ 2001 f_rows)] := by
  intro n_tried n_triedLeave n_numbers n_weights n_weightsAhead n_grains n_placeFrom n_barred n_limit n_size n_parts n_wanted n_found f_rows f_there f_size f_mostShares f_source r_n_tried r_n_triedLeave r_n_numbers r_n_weights r_n_weightsAhead r_n_grains r_n_placeFrom r_n_barred r_n_limit r_n_size r_n_parts r_n_wanted r_n_found r_f_rows r_f_there r_f_size r_f_mostShares r_f_source h
  rw [wp_X7_sums_29] at h
  refine q_iconst g (-1) dX7_sums_29 ?_
  exact q_iret g hF ⟨(-1), n_tried, n_triedLeave, n_numbers, n_weights, n_weightsAhead, n_grains, n_placeFrom, n_barred, n_limit, n_size, n_parts, n_wanted, n_found, f_rows, f_there, f_size, f_mostShares, f_source, rfl, rfl, (r32_lit _ (by decide)), r_n_tried, r_n_triedLeave, r_n_numbers, r_n_weights, r_n_weightsAhead, r_n_grains, r_n_placeFrom, r_n_barred, r_n_limit, r_n_size, r_n_parts, r_n_wanted, r_n_found, r_f_rows, r_f_there, r_f_size, r_f_mostShares, r_f_source, h⟩ dX7_sums_30
def wp_X7_sums (Q : Int → (Int → Int) → (Int → Int) → (Int → Int) → (Int → Int) → (Int → Int) → (Int → Int) → (Int → Int) → Int → Int → Int → Int → Int → Int → (Int → Int) → Int → Int → Int → Int → Prop) (s_above : Int → Int) (s_below : Int → Int) (n_tried : Int → Int) (n_triedLeave : Int → Int) (n_numbers : Int → Int) (n_weights : Int → Int) (n_weightsAhead : Int → Int) (n_grains : Int → Int) (n_placeFrom : Int → Int) (n_barred : Int) (n_limit : Int) (n_size : Int) (n_parts : Int) (n_wanted : Int) (n_found : Int) (f_rows : Int → Int) (f_there : Int) (f_size : Int) (f_mostShares : Int) (f_source : Int) (l1 : Int) (l2 : Int) (l3 : Int) : Prop := wp_X7_isRegister (fun (x1 : Int) => ((x1 = 0 → wp_X7_sums_29 Q s_above s_below n_tried n_triedLeave n_numbers n_weights n_weightsAhead n_grains n_placeFrom n_barred n_limit n_size n_parts n_wanted n_found f_rows f_there f_size f_mostShares f_source) ∧
  (¬ (x1 = 0) → ((l2 < 2 → wp_X7_sums_29 Q s_above s_below n_tried n_triedLeave n_numbers n_weights n_weightsAhead n_grains n_placeFrom n_barred n_limit n_size n_parts n_wanted n_found f_rows f_there f_size f_mostShares f_source) ∧
  (¬ (l2 < 2) → ((60 < l2 → wp_X7_sums_29 Q s_above s_below n_tried n_triedLeave n_numbers n_weights n_weightsAhead n_grains n_placeFrom n_barred n_limit n_size n_parts n_wanted n_found f_rows f_there f_size f_mostShares f_source) ∧
  (¬ (60 < l2) → ((l3 < 1 → wp_X7_sums_29 Q s_above s_below n_tried n_triedLeave n_numbers n_weights n_weightsAhead n_grains n_placeFrom n_barred n_limit n_size n_parts n_wanted n_found f_rows f_there f_size f_mostShares f_source) ∧
  (¬ (l3 < 1) → ((l3 ≤ 6 → wp_X7_isProper (fun (x33 : Int) => ((¬ x33 = 0 → (0 ≤ l1 ∧ l1 < 8 ∧ 0 ≤ l1 ∧ l1 < 8 ∧ wp_X2_prepare (fun (n_tried_59 : Int → Int) (n_triedLeave_59 : Int → Int) (n_numbers_59 : Int → Int) (n_weights_59 : Int → Int) (n_weightsAhead_59 : Int → Int) (n_grains_59 : Int → Int) (n_placeFrom_59 : Int → Int) (n_barred_59 : Int) (n_limit_59 : Int) (n_size_59 : Int) (n_parts_59 : Int) (n_wanted_59 : Int) => wp_X1_room (wp_X2_collect (fun (x78 : Int) (f_rows_78 : Int → Int) (n_found_78 : Int) => wp_X1_settle (fun (x82 : Int) (f_there_82 : Int) (f_size_82 : Int) (f_mostShares_82 : Int) (f_source_82 : Int) => Q x82 n_tried_59 n_triedLeave_59 n_numbers_59 n_weights_59 n_weightsAhead_59 n_grains_59 n_placeFrom_59 n_barred_59 n_limit_59 n_size_59 n_parts_59 n_wanted_59 n_found_78 f_rows_78 f_there_82 f_size_82 f_mostShares_82 f_source_82) f_there f_size f_mostShares f_source x78 l3) 2001 f_rows n_numbers_59 n_weights_59 n_weightsAhead_59 n_grains_59 n_placeFrom_59 n_limit_59 n_size_59 n_parts_59 n_wanted_59 n_found l3)) n_tried n_triedLeave n_numbers n_weights n_weightsAhead n_grains n_placeFrom n_barred n_limit n_size n_parts n_wanted (s_above l1) (s_below l1) l2)) ∧
  (x33 = 0 → Q (-2) n_tried n_triedLeave n_numbers n_weights n_weightsAhead n_grains n_placeFrom n_barred n_limit n_size n_parts n_wanted n_found f_rows f_there f_size f_mostShares f_source))) s_above s_below l1) ∧
  (¬ (l3 ≤ 6) → wp_X7_sums_29 Q s_above s_below n_tried n_triedLeave n_numbers n_weights n_weightsAhead n_grains n_placeFrom n_barred n_limit n_size n_parts n_wanted n_found f_rows f_there f_size f_mostShares f_source))))))))))) l1
set_option maxHeartbeats 4000000 in
set_option maxRecDepth 100000 in
theorem c_X7_sums (l : Launch) (D : va_G) (cI cJ : ClassId) (zt : Nat) (hX7 : Nat) (aX7_above : Nat) (aX7_below : Nat) (hX3 : Nat) (hX2 : Nat) (hX1 : Nat) (hX6 : Nat) (hX0 : Nat) (hX5 : Nat) (aX2_tried : Nat) (aX2_triedLeave : Nat) (aX2_numbers : Nat) (aX2_weights : Nat) (aX2_weightsAhead : Nat) (aX2_grains : Nat) (aX2_placeFrom : Nat) (aX2_first : Nat) (n_barred : Int) (n_limit : Int) (n_size : Int) (n_parts : Int) (n_wanted : Int) (n_found : Int) (aX1_rows : Nat) (aX1_ones : Nat) (aX1_twos : Nat) (aX1_distances : Nat) (aX1_reached : Nat) (f_swaps : Int) (f_there : Int) (f_size : Int) (f_mostShares : Int) (f_source : Int) (f_looked : Int) (f_ends : Int) (s_above : Int → Int) (s_below : Int → Int) (n_tried : Int → Int) (n_triedLeave : Int → Int) (n_numbers : Int → Int) (n_weights : Int → Int) (n_weightsAhead : Int → Int) (n_grains : Int → Int) (n_placeFrom : Int → Int) (f_rows : Int → Int) (l1 : Int) (l2 : Int) (l3 : Int) (Q : Int → (Int → Int) → (Int → Int) → (Int → Int) → (Int → Int) → (Int → Int) → (Int → Int) → (Int → Int) → Int → Int → Int → Int → Int → Int → (Int → Int) → Int → Int → Int → Int → Prop) (r_s_above : rr32 s_above) (r_s_below : rr32 s_below) (r_n_tried : rr32 n_tried) (r_n_triedLeave : rr64 n_triedLeave) (r_n_numbers : rr32 n_numbers) (r_n_weights : rr64 n_weights) (r_n_weightsAhead : rr64 n_weightsAhead) (r_n_grains : rr64 n_grains) (r_n_placeFrom : rr32 n_placeFrom) (r_n_barred : r64 n_barred) (r_n_limit : r32 n_limit) (r_n_size : r32 n_size) (r_n_parts : r64 n_parts) (r_n_wanted : r64 n_wanted) (r_n_found : r32 n_found) (r_f_rows : rr64 f_rows) (r_f_there : r32 f_there) (r_f_size : r32 f_size) (r_f_mostShares : r32 f_mostShares) (r_f_source : r32 f_source) (r_l1 : r32 l1) (r_l2 : r32 l2) (r_l3 : r32 l3) (h : wp_X7_sums Q s_above s_below n_tried n_triedLeave n_numbers n_weights n_weightsAhead n_grains n_placeFrom n_barred n_limit n_size n_parts n_wanted n_found f_rows f_there f_size f_mostShares f_source l1 l2 l3) : Ct l D cI cJ zt yX7_sums cX7_sums 4 (some .int) 13 0 0 [.ref hX7, .int (i32 l1), .int (i32 l2), .int (i32 l3)] [(hX7, .inr (6, [.ref aX7_above, .ref aX7_below, .ref hX3, .ref hX2, .ref hX1, .ref hX6, .ref hX0, .ref hX5])), (hX2, .inr (2, [.ref aX2_tried, .ref aX2_triedLeave, .ref aX2_numbers, .ref aX2_weights, .ref aX2_weightsAhead, .ref aX2_grains, .ref aX2_placeFrom, .ref aX2_first, .long (i64 n_barred), .int (i32 n_limit), .int (i32 n_size), .long (i64 n_parts), .long (i64 n_wanted), .int (i32 n_found)])), (hX1, .inr (1, [.ref aX1_rows, .ref aX1_ones, .ref aX1_twos, .ref aX1_distances, .ref aX1_reached, .int (i32 f_swaps), .int (i32 f_there), .int (i32 f_size), .int (i32 f_mostShares), .int (i32 f_source), .int (i32 f_looked), .int (i32 f_ends)])), (aX7_above, aI cI 8 s_above), (aX7_below, aI cI 8 s_below), (aX2_tried, aI cI 5 n_tried), (aX2_triedLeave, aL cJ 5 n_triedLeave), (aX2_numbers, aI cI 60 n_numbers), (aX2_weights, aL cJ 60 n_weights), (aX2_weightsAhead, aL cJ 61 n_weightsAhead), (aX2_grains, aL cJ 61 n_grains), (aX2_placeFrom, aI cI 61 n_placeFrom), (aX1_rows, aL cJ 2001 f_rows)] (po_X7_sums cI cJ hX7 aX7_above aX7_below hX3 hX2 hX1 hX6 hX0 hX5 aX2_tried aX2_triedLeave aX2_numbers aX2_weights aX2_weightsAhead aX2_grains aX2_placeFrom aX2_first aX1_rows aX1_ones aX1_twos aX1_distances aX1_reached f_swaps f_looked f_ends s_above s_below Q) := by
  refine ct_of (by decide +kernel) (Nat.le_of_ble_eq_true rfl) (fun X hl hDD hcI hcJ hzt hR hF hnm g => ?_)
  subst hl; subst hDD; subst hcI; subst hcJ; subst hzt
  show Wat X 0 0 0 [(0, .ref hX7), (1, .int (i32 l1)), (2, .int (i32 l2)), (3, .int (i32 l3))] [] [(hX7, .inr (6, [.ref aX7_above, .ref aX7_below, .ref hX3, .ref hX2, .ref hX1, .ref hX6, .ref hX0, .ref hX5])), (hX2, .inr (2, [.ref aX2_tried, .ref aX2_triedLeave, .ref aX2_numbers, .ref aX2_weights, .ref aX2_weightsAhead, .ref aX2_grains, .ref aX2_placeFrom, .ref aX2_first, .long (i64 n_barred), .int (i32 n_limit), .int (i32 n_size), .long (i64 n_parts), .long (i64 n_wanted), .int (i32 n_found)])), (hX1, .inr (1, [.ref aX1_rows, .ref aX1_ones, .ref aX1_twos, .ref aX1_distances, .ref aX1_reached, .int (i32 f_swaps), .int (i32 f_there), .int (i32 f_size), .int (i32 f_mostShares), .int (i32 f_source), .int (i32 f_looked), .int (i32 f_ends)])), (aX7_above, aI X.cI 8 s_above), (aX7_below, aI X.cI 8 s_below), (aX2_tried, aI X.cI 5 n_tried), (aX2_triedLeave, aL X.cJ 5 n_triedLeave), (aX2_numbers, aI X.cI 60 n_numbers), (aX2_weights, aL X.cJ 60 n_weights), (aX2_weightsAhead, aL X.cJ 61 n_weightsAhead), (aX2_grains, aL X.cJ 61 n_grains), (aX2_placeFrom, aI X.cI 61 n_placeFrom), (aX1_rows, aL X.cJ 2001 f_rows)]
  replace g : Gd X cX7_sums RX7 (some .int) 4 := g
  rw [wp_X7_sums] at h
  refine q_iload_n g 1 1 rfl dX7_sums_0 ?_
  refine q_callS (lev := 1) (mc := 0) (ms := 0) (As := [.int (i32 l1)]) g 64 (c_X7_isRegister X.l X.D X.cI X.cJ X.zt l1 _ r_l1 h) (wr := [(hX7, .inr (6, [.ref aX7_above, .ref aX7_below, .ref hX3, .ref hX2, .ref hX1, .ref hX6, .ref hX0, .ref hX5])), (hX2, .inr (2, [.ref aX2_tried, .ref aX2_triedLeave, .ref aX2_numbers, .ref aX2_weights, .ref aX2_weightsAhead, .ref aX2_grains, .ref aX2_placeFrom, .ref aX2_first, .long (i64 n_barred), .int (i32 n_limit), .int (i32 n_size), .long (i64 n_parts), .long (i64 n_wanted), .int (i32 n_found)])), (hX1, .inr (1, [.ref aX1_rows, .ref aX1_ones, .ref aX1_twos, .ref aX1_distances, .ref aX1_reached, .int (i32 f_swaps), .int (i32 f_there), .int (i32 f_size), .int (i32 f_mostShares), .int (i32 f_source), .int (i32 f_looked), .int (i32 f_ends)])), (aX7_above, aI X.cI 8 s_above), (aX7_below, aI X.cI 8 s_below), (aX2_tried, aI X.cI 5 n_tried), (aX2_triedLeave, aL X.cJ 5 n_triedLeave), (aX2_numbers, aI X.cI 60 n_numbers), (aX2_weights, aL X.cJ 60 n_weights), (aX2_weightsAhead, aL X.cJ 61 n_weightsAhead), (aX2_grains, aL X.cJ 61 n_grains), (aX2_placeFrom, aI X.cI 61 n_placeFrom), (aX1_rows, aL X.cJ 2001 f_rows)]) [] [0, 1, 2, 3, 4, 5, 6, 7, 8, 9, 10, 11, 12] rfl rfl rfl (by decide) (by decide) (by decide) wM_X7_64 wT_X7_isRegister wZ_X7 wC_X7_isRegister 1 rfl (by decide +kernel) (by rw [hR]; exact ⟨by show 1 + 1 ≤ 13; omega, by show 8 + (1 + 11) + 100 * 1 ≤ 100 * 13; omega⟩) (by rw [hR]; exact ⟨Nat.le_refl _, Nat.le_refl _⟩) (Nat.le_of_ble_eq_true rfl) rfl dX7_sums_1 (fun rv w1 hq => ?_)
  obtain ⟨x1, rfl, rfl, rx1, h⟩ := hq
  show Wat X 0 0 4 [(0, .ref hX7), (1, .int (i32 l1)), (2, .int (i32 l2)), (3, .int (i32 l3))] [.int (i32 x1)] [(hX7, .inr (6, [.ref aX7_above, .ref aX7_below, .ref hX3, .ref hX2, .ref hX1, .ref hX6, .ref hX0, .ref hX5])), (hX2, .inr (2, [.ref aX2_tried, .ref aX2_triedLeave, .ref aX2_numbers, .ref aX2_weights, .ref aX2_weightsAhead, .ref aX2_grains, .ref aX2_placeFrom, .ref aX2_first, .long (i64 n_barred), .int (i32 n_limit), .int (i32 n_size), .long (i64 n_parts), .long (i64 n_wanted), .int (i32 n_found)])), (hX1, .inr (1, [.ref aX1_rows, .ref aX1_ones, .ref aX1_twos, .ref aX1_distances, .ref aX1_reached, .int (i32 f_swaps), .int (i32 f_there), .int (i32 f_size), .int (i32 f_mostShares), .int (i32 f_source), .int (i32 f_looked), .int (i32 f_ends)])), (aX7_above, aI X.cI 8 s_above), (aX7_below, aI X.cI 8 s_below), (aX2_tried, aI X.cI 5 n_tried), (aX2_triedLeave, aL X.cJ 5 n_triedLeave), (aX2_numbers, aI X.cI 60 n_numbers), (aX2_weights, aL X.cJ 60 n_weights), (aX2_weightsAhead, aL X.cJ 61 n_weightsAhead), (aX2_grains, aL X.cJ 61 n_grains), (aX2_placeFrom, aI X.cI 61 n_placeFrom), (aX1_rows, aL X.cJ 2001 f_rows)]
  refine q_if_eq g (25) 29 rx1 (by decide) dX7_sums_4 (fun b4 => ?_) (fun b4 => ?_)
  · replace h := h.1 b4
    refine q_lv (lv' := []) [] rfl ?_
    exact s_X7_sums_29 g hR hX7 aX7_above aX7_below hX3 hX2 hX1 hX6 hX0 hX5 aX2_tried aX2_triedLeave aX2_numbers aX2_weights aX2_weightsAhead aX2_grains aX2_placeFrom aX2_first aX1_rows aX1_ones aX1_twos aX1_distances aX1_reached f_swaps f_looked f_ends s_above s_below r_s_above r_s_below Q hF n_tried n_triedLeave n_numbers n_weights n_weightsAhead n_grains n_placeFrom n_barred n_limit n_size n_parts n_wanted n_found f_rows f_there f_size f_mostShares f_source r_n_tried r_n_triedLeave r_n_numbers r_n_weights r_n_weightsAhead r_n_grains r_n_placeFrom r_n_barred r_n_limit r_n_size r_n_parts r_n_wanted r_n_found r_f_rows r_f_there r_f_size r_f_mostShares r_f_source h
  replace h := h.2 b4
  refine q_iload_n g 2 2 rfl dX7_sums_7 ?_
  refine q_iconst g (2) dX7_sums_8 ?_
  refine q_icmp_lt g (20) 29 r_l2 (r32_lit _ (by decide)) (by decide) dX7_sums_9 (fun b9 => ?_) (fun b9 => ?_)
  · replace h := h.1 b9
    refine q_lv (lv' := []) [] rfl ?_
    exact s_X7_sums_29 g hR hX7 aX7_above aX7_below hX3 hX2 hX1 hX6 hX0 hX5 aX2_tried aX2_triedLeave aX2_numbers aX2_weights aX2_weightsAhead aX2_grains aX2_placeFrom aX2_first aX1_rows aX1_ones aX1_twos aX1_distances aX1_reached f_swaps f_looked f_ends s_above s_below r_s_above r_s_below Q hF n_tried n_triedLeave n_numbers n_weights n_weightsAhead n_grains n_placeFrom n_barred n_limit n_size n_parts n_wanted n_found f_rows f_there f_size f_mostShares f_source r_n_tried r_n_triedLeave r_n_numbers r_n_weights r_n_weightsAhead r_n_grains r_n_placeFrom r_n_barred r_n_limit r_n_size r_n_parts r_n_wanted r_n_found r_f_rows r_f_there r_f_size r_f_mostShares r_f_source h
  replace h := h.2 b9
  refine q_iload_n g 2 2 rfl dX7_sums_12 ?_
  refine q_bipush g (60) (by decide) (by decide) dX7_sums_13 ?_
  refine q_icmp_gt g (14) 29 r_l2 (r32_lit _ (by decide)) (by decide) dX7_sums_15 (fun b15 => ?_) (fun b15 => ?_)
  · replace h := h.1 b15
    refine q_lv (lv' := []) [] rfl ?_
    exact s_X7_sums_29 g hR hX7 aX7_above aX7_below hX3 hX2 hX1 hX6 hX0 hX5 aX2_tried aX2_triedLeave aX2_numbers aX2_weights aX2_weightsAhead aX2_grains aX2_placeFrom aX2_first aX1_rows aX1_ones aX1_twos aX1_distances aX1_reached f_swaps f_looked f_ends s_above s_below r_s_above r_s_below Q hF n_tried n_triedLeave n_numbers n_weights n_weightsAhead n_grains n_placeFrom n_barred n_limit n_size n_parts n_wanted n_found f_rows f_there f_size f_mostShares f_source r_n_tried r_n_triedLeave r_n_numbers r_n_weights r_n_weightsAhead r_n_grains r_n_placeFrom r_n_barred r_n_limit r_n_size r_n_parts r_n_wanted r_n_found r_f_rows r_f_there r_f_size r_f_mostShares r_f_source h
  replace h := h.2 b15
  refine q_iload_n g 3 3 rfl dX7_sums_18 ?_
  refine q_iconst g (1) dX7_sums_19 ?_
  refine q_icmp_lt g (9) 29 r_l3 (r32_lit _ (by decide)) (by decide) dX7_sums_20 (fun b20 => ?_) (fun b20 => ?_)
  · replace h := h.1 b20
    refine q_lv (lv' := []) [] rfl ?_
    exact s_X7_sums_29 g hR hX7 aX7_above aX7_below hX3 hX2 hX1 hX6 hX0 hX5 aX2_tried aX2_triedLeave aX2_numbers aX2_weights aX2_weightsAhead aX2_grains aX2_placeFrom aX2_first aX1_rows aX1_ones aX1_twos aX1_distances aX1_reached f_swaps f_looked f_ends s_above s_below r_s_above r_s_below Q hF n_tried n_triedLeave n_numbers n_weights n_weightsAhead n_grains n_placeFrom n_barred n_limit n_size n_parts n_wanted n_found f_rows f_there f_size f_mostShares f_source r_n_tried r_n_triedLeave r_n_numbers r_n_weights r_n_weightsAhead r_n_grains r_n_placeFrom r_n_barred r_n_limit r_n_size r_n_parts r_n_wanted r_n_found r_f_rows r_f_there r_f_size r_f_mostShares r_f_source h
  replace h := h.2 b20
  refine q_iload_n g 3 3 rfl dX7_sums_23 ?_
  refine q_bipush g (6) (by decide) (by decide) dX7_sums_24 ?_
  refine q_icmp_le g (5) 31 r_l3 (r32_lit _ (by decide)) (by decide) dX7_sums_26 (fun b26 => ?_) (fun b26 => ?_)
  · replace h := h.1 b26
    refine q_aload_n g 0 0 rfl dX7_sums_31 ?_
    refine q_iload_n g 1 1 rfl dX7_sums_32 ?_
    refine q_callV (lev := 2) (mc := 0) (ms := 0) g 91 (c_X7_isProper X.l X.D X.cI X.cJ X.zt hX7 aX7_above aX7_below hX3 hX2 hX1 hX6 hX0 hX5 s_above s_below l1 _ r_s_above r_s_below r_l1 h) (wr := [(hX2, .inr (2, [.ref aX2_tried, .ref aX2_triedLeave, .ref aX2_numbers, .ref aX2_weights, .ref aX2_weightsAhead, .ref aX2_grains, .ref aX2_placeFrom, .ref aX2_first, .long (i64 n_barred), .int (i32 n_limit), .int (i32 n_size), .long (i64 n_parts), .long (i64 n_wanted), .int (i32 n_found)])), (hX1, .inr (1, [.ref aX1_rows, .ref aX1_ones, .ref aX1_twos, .ref aX1_distances, .ref aX1_reached, .int (i32 f_swaps), .int (i32 f_there), .int (i32 f_size), .int (i32 f_mostShares), .int (i32 f_source), .int (i32 f_looked), .int (i32 f_ends)])), (aX2_tried, aI X.cI 5 n_tried), (aX2_triedLeave, aL X.cJ 5 n_triedLeave), (aX2_numbers, aI X.cI 60 n_numbers), (aX2_weights, aL X.cJ 60 n_weights), (aX2_weightsAhead, aL X.cJ 61 n_weightsAhead), (aX2_grains, aL X.cJ 61 n_grains), (aX2_placeFrom, aI X.cI 61 n_placeFrom), (aX1_rows, aL X.cJ 2001 f_rows)]) [0, 3, 4] [1, 2, 5, 6, 7, 8, 9, 10, 11, 12] rfl rfl rfl (by decide) (by decide) (by decide) (ci := 6) rfl rfl rfl wM_X7_91 wI_X7_isProper wS_X7_isProper wZ_X7 wC_X7_isProper 1 rfl (by decide +kernel) (by rw [hR]; exact ⟨by show 2 + 1 ≤ 13; omega, by show 8 + (2 + 11) + 100 * 2 ≤ 100 * 13; omega⟩) (by rw [hR]; exact ⟨Nat.le_refl _, Nat.le_refl _⟩) (Nat.le_of_ble_eq_true rfl) rfl dX7_sums_33 (fun rv w1 hq => ?_)
    obtain ⟨x33, rfl, rfl, rx33, h⟩ := hq
    refine q_ws (ws' := [(hX7, .inr (6, [.ref aX7_above, .ref aX7_below, .ref hX3, .ref hX2, .ref hX1, .ref hX6, .ref hX0, .ref hX5])), (hX2, .inr (2, [.ref aX2_tried, .ref aX2_triedLeave, .ref aX2_numbers, .ref aX2_weights, .ref aX2_weightsAhead, .ref aX2_grains, .ref aX2_placeFrom, .ref aX2_first, .long (i64 n_barred), .int (i32 n_limit), .int (i32 n_size), .long (i64 n_parts), .long (i64 n_wanted), .int (i32 n_found)])), (hX1, .inr (1, [.ref aX1_rows, .ref aX1_ones, .ref aX1_twos, .ref aX1_distances, .ref aX1_reached, .int (i32 f_swaps), .int (i32 f_there), .int (i32 f_size), .int (i32 f_mostShares), .int (i32 f_source), .int (i32 f_looked), .int (i32 f_ends)])), (aX7_above, aI X.cI 8 s_above), (aX7_below, aI X.cI 8 s_below), (aX2_tried, aI X.cI 5 n_tried), (aX2_triedLeave, aL X.cJ 5 n_triedLeave), (aX2_numbers, aI X.cI 60 n_numbers), (aX2_weights, aL X.cJ 60 n_weights), (aX2_weightsAhead, aL X.cJ 61 n_weightsAhead), (aX2_grains, aL X.cJ 61 n_grains), (aX2_placeFrom, aI X.cI 61 n_placeFrom), (aX1_rows, aL X.cJ 2001 f_rows)]) [10, 0, 1, 11, 12, 2, 3, 4, 5, 6, 7, 8, 9] (by decide) rfl rfl ?_
    show Wat X 0 0 36 [(0, .ref hX7), (1, .int (i32 l1)), (2, .int (i32 l2)), (3, .int (i32 l3))] [.int (i32 x33)] [(hX7, .inr (6, [.ref aX7_above, .ref aX7_below, .ref hX3, .ref hX2, .ref hX1, .ref hX6, .ref hX0, .ref hX5])), (hX2, .inr (2, [.ref aX2_tried, .ref aX2_triedLeave, .ref aX2_numbers, .ref aX2_weights, .ref aX2_weightsAhead, .ref aX2_grains, .ref aX2_placeFrom, .ref aX2_first, .long (i64 n_barred), .int (i32 n_limit), .int (i32 n_size), .long (i64 n_parts), .long (i64 n_wanted), .int (i32 n_found)])), (hX1, .inr (1, [.ref aX1_rows, .ref aX1_ones, .ref aX1_twos, .ref aX1_distances, .ref aX1_reached, .int (i32 f_swaps), .int (i32 f_there), .int (i32 f_size), .int (i32 f_mostShares), .int (i32 f_source), .int (i32 f_looked), .int (i32 f_ends)])), (aX7_above, aI X.cI 8 s_above), (aX7_below, aI X.cI 8 s_below), (aX2_tried, aI X.cI 5 n_tried), (aX2_triedLeave, aL X.cJ 5 n_triedLeave), (aX2_numbers, aI X.cI 60 n_numbers), (aX2_weights, aL X.cJ 60 n_weights), (aX2_weightsAhead, aL X.cJ 61 n_weightsAhead), (aX2_grains, aL X.cJ 61 n_grains), (aX2_placeFrom, aI X.cI 61 n_placeFrom), (aX1_rows, aL X.cJ 2001 f_rows)]
    refine q_if_ne g (6) 42 rx33 (by decide) dX7_sums_36 (fun b36 => ?_) (fun b36 => ?_)
    · replace h := h.1 b36
      refine q_aload_n g 0 0 rfl dX7_sums_42 ?_
      refine q_get (C := RX7) (T := TX7) (N := 8) g 26 inX7 0 3 rfl rfl (by decide) wF_X7_26 rfl dX7_sums_43 ?_
      refine q_aload_n g 0 0 rfl dX7_sums_46 ?_
      refine q_get (C := RX7) (T := TX7) (N := 8) g 9 inX7 0 0 rfl rfl (by decide) wF_X7_9 rfl dX7_sums_47 ?_
      refine q_iload_n g 1 1 rfl dX7_sums_50 ?_
      obtain ⟨c51, h⟩ := h
      obtain ⟨e51, h⟩ := h
      refine q_iald g 3 rfl c51 e51 (by decide) dX7_sums_51 ?_
      refine q_aload_n g 0 0 rfl dX7_sums_52 ?_
      refine q_get (C := RX7) (T := TX7) (N := 8) g 13 inX7 0 1 rfl rfl (by decide) wF_X7_13 rfl dX7_sums_53 ?_
      refine q_iload_n g 1 1 rfl dX7_sums_56 ?_
      obtain ⟨c57, h⟩ := h
      obtain ⟨e57, h⟩ := h
      refine q_iald g 4 rfl c57 e57 (by decide) dX7_sums_57 ?_
      refine q_iload_n g 2 2 rfl dX7_sums_58 ?_
      refine q_callV (lev := 6) (mc := 0) (ms := 0) g 94 (c_X2_prepare X.l X.D X.cI X.cJ X.zt hX2 aX2_tried aX2_triedLeave aX2_numbers aX2_weights aX2_weightsAhead aX2_grains aX2_placeFrom aX2_first n_barred n_limit n_size n_parts n_wanted n_found n_tried n_triedLeave n_numbers n_weights n_weightsAhead n_grains n_placeFrom (s_above l1) (s_below l1) l2 _ r_n_tried r_n_triedLeave r_n_numbers r_n_weights r_n_weightsAhead r_n_grains r_n_placeFrom r_n_barred r_n_limit r_n_size r_n_parts r_n_wanted (r_s_above _) (r_s_below _) r_l2 h) (wr := [(hX7, .inr (6, [.ref aX7_above, .ref aX7_below, .ref hX3, .ref hX2, .ref hX1, .ref hX6, .ref hX0, .ref hX5])), (hX1, .inr (1, [.ref aX1_rows, .ref aX1_ones, .ref aX1_twos, .ref aX1_distances, .ref aX1_reached, .int (i32 f_swaps), .int (i32 f_there), .int (i32 f_size), .int (i32 f_mostShares), .int (i32 f_source), .int (i32 f_looked), .int (i32 f_ends)])), (aX7_above, aI X.cI 8 s_above), (aX7_below, aI X.cI 8 s_below), (aX1_rows, aL X.cJ 2001 f_rows)]) [1, 5, 6, 7, 8, 9, 10, 11] [0, 2, 3, 4, 12] rfl rfl rfl (by decide) (by decide) (by decide) (ci := 2) rfl rfl rfl wM_X7_94 wI_X2_prepare wS_X2_prepare wZ_X2 wC_X2_prepare 3 rfl (by decide +kernel) (by rw [hR]; exact ⟨by show 6 + 1 ≤ 13; omega, by show 8 + (4 + 11) + 100 * 6 ≤ 100 * 13; omega⟩) (by rw [hR]; exact ⟨Nat.le_refl _, Nat.le_refl _⟩) (Nat.le_of_ble_eq_true rfl) rfl dX7_sums_59 (fun rv w1 hq => ?_)
      obtain ⟨n_tried_59, n_triedLeave_59, n_numbers_59, n_weights_59, n_weightsAhead_59, n_grains_59, n_placeFrom_59, n_barred_59, n_limit_59, n_size_59, n_parts_59, n_wanted_59, rfl, rfl, rn_tried_59, rn_triedLeave_59, rn_numbers_59, rn_weights_59, rn_weightsAhead_59, rn_grains_59, rn_placeFrom_59, rn_barred_59, rn_limit_59, rn_size_59, rn_parts_59, rn_wanted_59, h⟩ := hq
      refine q_ws (ws' := [(hX7, .inr (6, [.ref aX7_above, .ref aX7_below, .ref hX3, .ref hX2, .ref hX1, .ref hX6, .ref hX0, .ref hX5])), (hX2, .inr (2, [.ref aX2_tried, .ref aX2_triedLeave, .ref aX2_numbers, .ref aX2_weights, .ref aX2_weightsAhead, .ref aX2_grains, .ref aX2_placeFrom, .ref aX2_first, .long (i64 n_barred_59), .int (i32 n_limit_59), .int (i32 n_size_59), .long (i64 n_parts_59), .long (i64 n_wanted_59), .int (i32 n_found)])), (hX1, .inr (1, [.ref aX1_rows, .ref aX1_ones, .ref aX1_twos, .ref aX1_distances, .ref aX1_reached, .int (i32 f_swaps), .int (i32 f_there), .int (i32 f_size), .int (i32 f_mostShares), .int (i32 f_source), .int (i32 f_looked), .int (i32 f_ends)])), (aX7_above, aI X.cI 8 s_above), (aX7_below, aI X.cI 8 s_below), (aX2_tried, aI X.cI 5 n_tried_59), (aX2_triedLeave, aL X.cJ 5 n_triedLeave_59), (aX2_numbers, aI X.cI 60 n_numbers_59), (aX2_weights, aL X.cJ 60 n_weights_59), (aX2_weightsAhead, aL X.cJ 61 n_weightsAhead_59), (aX2_grains, aL X.cJ 61 n_grains_59), (aX2_placeFrom, aI X.cI 61 n_placeFrom_59), (aX1_rows, aL X.cJ 2001 f_rows)]) [0, 5, 1, 2, 3, 6, 7, 8, 9, 10, 11, 12, 4] (by decide) rfl rfl ?_
      show Wat X 0 0 62 [(0, .ref hX7), (1, .int (i32 l1)), (2, .int (i32 l2)), (3, .int (i32 l3))] [] [(hX7, .inr (6, [.ref aX7_above, .ref aX7_below, .ref hX3, .ref hX2, .ref hX1, .ref hX6, .ref hX0, .ref hX5])), (hX2, .inr (2, [.ref aX2_tried, .ref aX2_triedLeave, .ref aX2_numbers, .ref aX2_weights, .ref aX2_weightsAhead, .ref aX2_grains, .ref aX2_placeFrom, .ref aX2_first, .long (i64 n_barred_59), .int (i32 n_limit_59), .int (i32 n_size_59), .long (i64 n_parts_59), .long (i64 n_wanted_59), .int (i32 n_found)])), (hX1, .inr (1, [.ref aX1_rows, .ref aX1_ones, .ref aX1_twos, .ref aX1_distances, .ref aX1_reached, .int (i32 f_swaps), .int (i32 f_there), .int (i32 f_size), .int (i32 f_mostShares), .int (i32 f_source), .int (i32 f_looked), .int (i32 f_ends)])), (aX7_above, aI X.cI 8 s_above), (aX7_below, aI X.cI 8 s_below), (aX2_tried, aI X.cI 5 n_tried_59), (aX2_triedLeave, aL X.cJ 5 n_triedLeave_59), (aX2_numbers, aI X.cI 60 n_numbers_59), (aX2_weights, aL X.cJ 60 n_weights_59), (aX2_weightsAhead, aL X.cJ 61 n_weightsAhead_59), (aX2_grains, aL X.cJ 61 n_grains_59), (aX2_placeFrom, aI X.cI 61 n_placeFrom_59), (aX1_rows, aL X.cJ 2001 f_rows)]
      refine q_aload_n g 0 0 rfl dX7_sums_62 ?_
      refine q_get (C := RX7) (T := TX7) (N := 8) g 33 inX7 0 4 rfl rfl (by decide) wF_X7_33 rfl dX7_sums_63 ?_
      refine q_aload_n g 0 0 rfl dX7_sums_66 ?_
      refine q_get (C := RX7) (T := TX7) (N := 8) g 26 inX7 0 3 rfl rfl (by decide) wF_X7_26 rfl dX7_sums_67 ?_
      refine q_iload_n g 3 3 rfl dX7_sums_70 ?_
      refine q_aload_n g 0 0 rfl dX7_sums_71 ?_
      refine q_get (C := RX7) (T := TX7) (N := 8) g 33 inX7 0 4 rfl rfl (by decide) wF_X7_33 rfl dX7_sums_72 ?_
      refine q_callV (lev := 1) (mc := 0) (ms := 0) g 98 (c_X1_room X.l X.D X.cI X.cJ X.zt hX1 aX1_rows aX1_ones aX1_twos aX1_distances aX1_reached f_swaps f_there f_size f_mostShares f_source f_looked f_ends _ h) (wr := [(hX7, .inr (6, [.ref aX7_above, .ref aX7_below, .ref hX3, .ref hX2, .ref hX1, .ref hX6, .ref hX0, .ref hX5])), (hX2, .inr (2, [.ref aX2_tried, .ref aX2_triedLeave, .ref aX2_numbers, .ref aX2_weights, .ref aX2_weightsAhead, .ref aX2_grains, .ref aX2_placeFrom, .ref aX2_first, .long (i64 n_barred_59), .int (i32 n_limit_59), .int (i32 n_size_59), .long (i64 n_parts_59), .long (i64 n_wanted_59), .int (i32 n_found)])), (aX7_above, aI X.cI 8 s_above), (aX7_below, aI X.cI 8 s_below), (aX2_tried, aI X.cI 5 n_tried_59), (aX2_triedLeave, aL X.cJ 5 n_triedLeave_59), (aX2_numbers, aI X.cI 60 n_numbers_59), (aX2_weights, aL X.cJ 60 n_weights_59), (aX2_weightsAhead, aL X.cJ 61 n_weightsAhead_59), (aX2_grains, aL X.cJ 61 n_grains_59), (aX2_placeFrom, aI X.cI 61 n_placeFrom_59), (aX1_rows, aL X.cJ 2001 f_rows)]) [2] [0, 1, 3, 4, 5, 6, 7, 8, 9, 10, 11, 12] rfl rfl rfl (by decide) (by decide) (by decide) (ci := 1) rfl rfl rfl wM_X7_98 wI_X1_room wS_X1_room wZ_X1 wC_X1_room 0 rfl (by decide +kernel) (by rw [hR]; exact ⟨by show 1 + 1 ≤ 13; omega, by show 8 + (1 + 11) + 100 * 1 ≤ 100 * 13; omega⟩) (by rw [hR]; exact ⟨Nat.le_refl _, Nat.le_refl _⟩) (Nat.le_of_ble_eq_true rfl) rfl dX7_sums_75 (fun rv w1 hq => ?_)
      obtain ⟨rfl, rfl, h⟩ := hq
      refine q_ws (ws' := [(hX7, .inr (6, [.ref aX7_above, .ref aX7_below, .ref hX3, .ref hX2, .ref hX1, .ref hX6, .ref hX0, .ref hX5])), (hX2, .inr (2, [.ref aX2_tried, .ref aX2_triedLeave, .ref aX2_numbers, .ref aX2_weights, .ref aX2_weightsAhead, .ref aX2_grains, .ref aX2_placeFrom, .ref aX2_first, .long (i64 n_barred_59), .int (i32 n_limit_59), .int (i32 n_size_59), .long (i64 n_parts_59), .long (i64 n_wanted_59), .int (i32 n_found)])), (hX1, .inr (1, [.ref aX1_rows, .ref aX1_ones, .ref aX1_twos, .ref aX1_distances, .ref aX1_reached, .int (i32 f_swaps), .int (i32 f_there), .int (i32 f_size), .int (i32 f_mostShares), .int (i32 f_source), .int (i32 f_looked), .int (i32 f_ends)])), (aX7_above, aI X.cI 8 s_above), (aX7_below, aI X.cI 8 s_below), (aX2_tried, aI X.cI 5 n_tried_59), (aX2_triedLeave, aL X.cJ 5 n_triedLeave_59), (aX2_numbers, aI X.cI 60 n_numbers_59), (aX2_weights, aL X.cJ 60 n_weights_59), (aX2_weightsAhead, aL X.cJ 61 n_weightsAhead_59), (aX2_grains, aL X.cJ 61 n_grains_59), (aX2_placeFrom, aI X.cI 61 n_placeFrom_59), (aX1_rows, aL X.cJ 2001 f_rows)]) [0, 1, 12, 2, 3, 4, 5, 6, 7, 8, 9, 10, 11] (by decide) rfl rfl ?_
      show Wat X 0 0 78 [(0, .ref hX7), (1, .int (i32 l1)), (2, .int (i32 l2)), (3, .int (i32 l3))] [.ref aX1_rows, .int (i32 l3), .ref hX2, .ref hX1] [(hX7, .inr (6, [.ref aX7_above, .ref aX7_below, .ref hX3, .ref hX2, .ref hX1, .ref hX6, .ref hX0, .ref hX5])), (hX2, .inr (2, [.ref aX2_tried, .ref aX2_triedLeave, .ref aX2_numbers, .ref aX2_weights, .ref aX2_weightsAhead, .ref aX2_grains, .ref aX2_placeFrom, .ref aX2_first, .long (i64 n_barred_59), .int (i32 n_limit_59), .int (i32 n_size_59), .long (i64 n_parts_59), .long (i64 n_wanted_59), .int (i32 n_found)])), (hX1, .inr (1, [.ref aX1_rows, .ref aX1_ones, .ref aX1_twos, .ref aX1_distances, .ref aX1_reached, .int (i32 f_swaps), .int (i32 f_there), .int (i32 f_size), .int (i32 f_mostShares), .int (i32 f_source), .int (i32 f_looked), .int (i32 f_ends)])), (aX7_above, aI X.cI 8 s_above), (aX7_below, aI X.cI 8 s_below), (aX2_tried, aI X.cI 5 n_tried_59), (aX2_triedLeave, aL X.cJ 5 n_triedLeave_59), (aX2_numbers, aI X.cI 60 n_numbers_59), (aX2_weights, aL X.cJ 60 n_weights_59), (aX2_weightsAhead, aL X.cJ 61 n_weightsAhead_59), (aX2_grains, aL X.cJ 61 n_grains_59), (aX2_placeFrom, aI X.cI 61 n_placeFrom_59), (aX1_rows, aL X.cJ 2001 f_rows)]
      refine q_callV (lev := 12) (mc := 0) (ms := 0) g 102 (c_X2_collect X.l X.D X.cI X.cJ X.zt hX2 aX2_tried aX2_triedLeave aX2_numbers aX2_weights aX2_weightsAhead aX2_grains aX2_placeFrom aX2_first n_barred_59 n_limit_59 n_size_59 n_parts_59 n_wanted_59 n_found aX1_rows 2001 f_rows n_numbers_59 n_weights_59 n_weightsAhead_59 n_grains_59 n_placeFrom_59 l3 _ r_f_rows rn_numbers_59 rn_weights_59 rn_weightsAhead_59 rn_grains_59 rn_placeFrom_59 rn_limit_59 rn_size_59 rn_parts_59 rn_wanted_59 r_n_found r_l3 (by decide) h) (wr := [(hX7, .inr (6, [.ref aX7_above, .ref aX7_below, .ref hX3, .ref hX2, .ref hX1, .ref hX6, .ref hX0, .ref hX5])), (hX1, .inr (1, [.ref aX1_rows, .ref aX1_ones, .ref aX1_twos, .ref aX1_distances, .ref aX1_reached, .int (i32 f_swaps), .int (i32 f_there), .int (i32 f_size), .int (i32 f_mostShares), .int (i32 f_source), .int (i32 f_looked), .int (i32 f_ends)])), (aX7_above, aI X.cI 8 s_above), (aX7_below, aI X.cI 8 s_below), (aX2_tried, aI X.cI 5 n_tried_59), (aX2_triedLeave, aL X.cJ 5 n_triedLeave_59)]) [1, 12, 7, 8, 9, 10, 11] [0, 2, 3, 4, 5, 6] rfl rfl rfl (by decide) (by decide) (by decide) (ci := 2) rfl rfl rfl wM_X7_102 wI_X2_collect wS_X2_collect wZ_X2 wC_X2_collect 2 rfl (by decide +kernel) (by rw [hR]; exact ⟨by show 12 + 1 ≤ 13; omega, by show 8 + (3 + 11) + 100 * 12 ≤ 100 * 13; omega⟩) (by rw [hR]; exact ⟨Nat.le_refl _, Nat.le_refl _⟩) (Nat.le_of_ble_eq_true rfl) rfl dX7_sums_78 (fun rv w1 hq => ?_)
      obtain ⟨x78, f_rows_78, n_found_78, rfl, rfl, rx78, rf_rows_78, rn_found_78, h⟩ := hq
      refine q_ws (ws' := [(hX7, .inr (6, [.ref aX7_above, .ref aX7_below, .ref hX3, .ref hX2, .ref hX1, .ref hX6, .ref hX0, .ref hX5])), (hX2, .inr (2, [.ref aX2_tried, .ref aX2_triedLeave, .ref aX2_numbers, .ref aX2_weights, .ref aX2_weightsAhead, .ref aX2_grains, .ref aX2_placeFrom, .ref aX2_first, .long (i64 n_barred_59), .int (i32 n_limit_59), .int (i32 n_size_59), .long (i64 n_parts_59), .long (i64 n_wanted_59), .int (i32 n_found_78)])), (hX1, .inr (1, [.ref aX1_rows, .ref aX1_ones, .ref aX1_twos, .ref aX1_distances, .ref aX1_reached, .int (i32 f_swaps), .int (i32 f_there), .int (i32 f_size), .int (i32 f_mostShares), .int (i32 f_source), .int (i32 f_looked), .int (i32 f_ends)])), (aX7_above, aI X.cI 8 s_above), (aX7_below, aI X.cI 8 s_below), (aX2_tried, aI X.cI 5 n_tried_59), (aX2_triedLeave, aL X.cJ 5 n_triedLeave_59), (aX2_numbers, aI X.cI 60 n_numbers_59), (aX2_weights, aL X.cJ 60 n_weights_59), (aX2_weightsAhead, aL X.cJ 61 n_weightsAhead_59), (aX2_grains, aL X.cJ 61 n_grains_59), (aX2_placeFrom, aI X.cI 61 n_placeFrom_59), (aX1_rows, aL X.cJ 2001 f_rows_78)]) [0, 6, 1, 2, 3, 4, 5, 8, 9, 10, 11, 12, 7] (by decide) rfl rfl ?_
      show Wat X 0 0 81 [(0, .ref hX7), (1, .int (i32 l1)), (2, .int (i32 l2)), (3, .int (i32 l3))] [.int (i32 x78), .ref hX1] [(hX7, .inr (6, [.ref aX7_above, .ref aX7_below, .ref hX3, .ref hX2, .ref hX1, .ref hX6, .ref hX0, .ref hX5])), (hX2, .inr (2, [.ref aX2_tried, .ref aX2_triedLeave, .ref aX2_numbers, .ref aX2_weights, .ref aX2_weightsAhead, .ref aX2_grains, .ref aX2_placeFrom, .ref aX2_first, .long (i64 n_barred_59), .int (i32 n_limit_59), .int (i32 n_size_59), .long (i64 n_parts_59), .long (i64 n_wanted_59), .int (i32 n_found_78)])), (hX1, .inr (1, [.ref aX1_rows, .ref aX1_ones, .ref aX1_twos, .ref aX1_distances, .ref aX1_reached, .int (i32 f_swaps), .int (i32 f_there), .int (i32 f_size), .int (i32 f_mostShares), .int (i32 f_source), .int (i32 f_looked), .int (i32 f_ends)])), (aX7_above, aI X.cI 8 s_above), (aX7_below, aI X.cI 8 s_below), (aX2_tried, aI X.cI 5 n_tried_59), (aX2_triedLeave, aL X.cJ 5 n_triedLeave_59), (aX2_numbers, aI X.cI 60 n_numbers_59), (aX2_weights, aL X.cJ 60 n_weights_59), (aX2_weightsAhead, aL X.cJ 61 n_weightsAhead_59), (aX2_grains, aL X.cJ 61 n_grains_59), (aX2_placeFrom, aI X.cI 61 n_placeFrom_59), (aX1_rows, aL X.cJ 2001 f_rows_78)]
      refine q_iload_n g 3 3 rfl dX7_sums_81 ?_
      refine q_callV (lev := 1) (mc := 0) (ms := 0) g 106 (c_X1_settle X.l X.D X.cI X.cJ X.zt hX1 aX1_rows aX1_ones aX1_twos aX1_distances aX1_reached f_swaps f_there f_size f_mostShares f_source f_looked f_ends x78 l3 _ r_f_there r_f_size r_f_mostShares r_f_source rx78 r_l3 h) (wr := [(hX7, .inr (6, [.ref aX7_above, .ref aX7_below, .ref hX3, .ref hX2, .ref hX1, .ref hX6, .ref hX0, .ref hX5])), (hX2, .inr (2, [.ref aX2_tried, .ref aX2_triedLeave, .ref aX2_numbers, .ref aX2_weights, .ref aX2_weightsAhead, .ref aX2_grains, .ref aX2_placeFrom, .ref aX2_first, .long (i64 n_barred_59), .int (i32 n_limit_59), .int (i32 n_size_59), .long (i64 n_parts_59), .long (i64 n_wanted_59), .int (i32 n_found_78)])), (aX7_above, aI X.cI 8 s_above), (aX7_below, aI X.cI 8 s_below), (aX2_tried, aI X.cI 5 n_tried_59), (aX2_triedLeave, aL X.cJ 5 n_triedLeave_59), (aX2_numbers, aI X.cI 60 n_numbers_59), (aX2_weights, aL X.cJ 60 n_weights_59), (aX2_weightsAhead, aL X.cJ 61 n_weightsAhead_59), (aX2_grains, aL X.cJ 61 n_grains_59), (aX2_placeFrom, aI X.cI 61 n_placeFrom_59), (aX1_rows, aL X.cJ 2001 f_rows_78)]) [2] [0, 1, 3, 4, 5, 6, 7, 8, 9, 10, 11, 12] rfl rfl rfl (by decide) (by decide) (by decide) (ci := 1) rfl rfl rfl wM_X7_106 wI_X1_settle wS_X1_settle wZ_X1 wC_X1_settle 2 rfl (by decide +kernel) (by rw [hR]; exact ⟨by show 1 + 1 ≤ 13; omega, by show 8 + (3 + 11) + 100 * 1 ≤ 100 * 13; omega⟩) (by rw [hR]; exact ⟨Nat.le_refl _, Nat.le_refl _⟩) (Nat.le_of_ble_eq_true rfl) rfl dX7_sums_82 (fun rv w1 hq => ?_)
      obtain ⟨x82, f_there_82, f_size_82, f_mostShares_82, f_source_82, rfl, rfl, rx82, rf_there_82, rf_size_82, rf_mostShares_82, rf_source_82, h⟩ := hq
      refine q_ws (ws' := [(hX7, .inr (6, [.ref aX7_above, .ref aX7_below, .ref hX3, .ref hX2, .ref hX1, .ref hX6, .ref hX0, .ref hX5])), (hX2, .inr (2, [.ref aX2_tried, .ref aX2_triedLeave, .ref aX2_numbers, .ref aX2_weights, .ref aX2_weightsAhead, .ref aX2_grains, .ref aX2_placeFrom, .ref aX2_first, .long (i64 n_barred_59), .int (i32 n_limit_59), .int (i32 n_size_59), .long (i64 n_parts_59), .long (i64 n_wanted_59), .int (i32 n_found_78)])), (hX1, .inr (1, [.ref aX1_rows, .ref aX1_ones, .ref aX1_twos, .ref aX1_distances, .ref aX1_reached, .int (i32 f_swaps), .int (i32 f_there_82), .int (i32 f_size_82), .int (i32 f_mostShares_82), .int (i32 f_source_82), .int (i32 f_looked), .int (i32 f_ends)])), (aX7_above, aI X.cI 8 s_above), (aX7_below, aI X.cI 8 s_below), (aX2_tried, aI X.cI 5 n_tried_59), (aX2_triedLeave, aL X.cJ 5 n_triedLeave_59), (aX2_numbers, aI X.cI 60 n_numbers_59), (aX2_weights, aL X.cJ 60 n_weights_59), (aX2_weightsAhead, aL X.cJ 61 n_weightsAhead_59), (aX2_grains, aL X.cJ 61 n_grains_59), (aX2_placeFrom, aI X.cI 61 n_placeFrom_59), (aX1_rows, aL X.cJ 2001 f_rows_78)]) [0, 1, 12, 2, 3, 4, 5, 6, 7, 8, 9, 10, 11] (by decide) rfl rfl ?_
      show Wat X 0 0 85 [(0, .ref hX7), (1, .int (i32 l1)), (2, .int (i32 l2)), (3, .int (i32 l3))] [.int (i32 x82)] [(hX7, .inr (6, [.ref aX7_above, .ref aX7_below, .ref hX3, .ref hX2, .ref hX1, .ref hX6, .ref hX0, .ref hX5])), (hX2, .inr (2, [.ref aX2_tried, .ref aX2_triedLeave, .ref aX2_numbers, .ref aX2_weights, .ref aX2_weightsAhead, .ref aX2_grains, .ref aX2_placeFrom, .ref aX2_first, .long (i64 n_barred_59), .int (i32 n_limit_59), .int (i32 n_size_59), .long (i64 n_parts_59), .long (i64 n_wanted_59), .int (i32 n_found_78)])), (hX1, .inr (1, [.ref aX1_rows, .ref aX1_ones, .ref aX1_twos, .ref aX1_distances, .ref aX1_reached, .int (i32 f_swaps), .int (i32 f_there_82), .int (i32 f_size_82), .int (i32 f_mostShares_82), .int (i32 f_source_82), .int (i32 f_looked), .int (i32 f_ends)])), (aX7_above, aI X.cI 8 s_above), (aX7_below, aI X.cI 8 s_below), (aX2_tried, aI X.cI 5 n_tried_59), (aX2_triedLeave, aL X.cJ 5 n_triedLeave_59), (aX2_numbers, aI X.cI 60 n_numbers_59), (aX2_weights, aL X.cJ 60 n_weights_59), (aX2_weightsAhead, aL X.cJ 61 n_weightsAhead_59), (aX2_grains, aL X.cJ 61 n_grains_59), (aX2_placeFrom, aI X.cI 61 n_placeFrom_59), (aX1_rows, aL X.cJ 2001 f_rows_78)]
      exact q_iret g hF ⟨x82, n_tried_59, n_triedLeave_59, n_numbers_59, n_weights_59, n_weightsAhead_59, n_grains_59, n_placeFrom_59, n_barred_59, n_limit_59, n_size_59, n_parts_59, n_wanted_59, n_found_78, f_rows_78, f_there_82, f_size_82, f_mostShares_82, f_source_82, rfl, rfl, rx82, rn_tried_59, rn_triedLeave_59, rn_numbers_59, rn_weights_59, rn_weightsAhead_59, rn_grains_59, rn_placeFrom_59, rn_barred_59, rn_limit_59, rn_size_59, rn_parts_59, rn_wanted_59, rn_found_78, rf_rows_78, rf_there_82, rf_size_82, rf_mostShares_82, rf_source_82, h⟩ dX7_sums_85
    replace h := h.2 b36
    refine q_bipush g (-2) (by decide) (by decide) dX7_sums_39 ?_
    exact q_iret g hF ⟨(-2), n_tried, n_triedLeave, n_numbers, n_weights, n_weightsAhead, n_grains, n_placeFrom, n_barred, n_limit, n_size, n_parts, n_wanted, n_found, f_rows, f_there, f_size, f_mostShares, f_source, rfl, rfl, (r32_lit _ (by decide)), r_n_tried, r_n_triedLeave, r_n_numbers, r_n_weights, r_n_weightsAhead, r_n_grains, r_n_placeFrom, r_n_barred, r_n_limit, r_n_size, r_n_parts, r_n_wanted, r_n_found, r_f_rows, r_f_there, r_f_size, r_f_mostShares, r_f_source, h⟩ dX7_sums_41
  replace h := h.2 b26
  refine q_lv (lv' := []) [] rfl ?_
  exact s_X7_sums_29 g hR hX7 aX7_above aX7_below hX3 hX2 hX1 hX6 hX0 hX5 aX2_tried aX2_triedLeave aX2_numbers aX2_weights aX2_weightsAhead aX2_grains aX2_placeFrom aX2_first aX1_rows aX1_ones aX1_twos aX1_distances aX1_reached f_swaps f_looked f_ends s_above s_below r_s_above r_s_below Q hF n_tried n_triedLeave n_numbers n_weights n_weightsAhead n_grains n_placeFrom n_barred n_limit n_size n_parts n_wanted n_found f_rows f_there f_size f_mostShares f_source r_n_tried r_n_triedLeave r_n_numbers r_n_weights r_n_weightsAhead r_n_grains r_n_placeFrom r_n_barred r_n_limit r_n_size r_n_parts r_n_wanted r_n_found r_f_rows r_f_there r_f_size r_f_mostShares r_f_source h
theorem dX7_table_0 : decode cX7_table 0 = .ok (.iload_n 1, 1) := by decide +kernel
theorem dX7_table_1 : decode cX7_table 1 = .ok (.iconst 2, 1) := by decide +kernel
theorem dX7_table_2 : decode cX7_table 2 = .ok (.if_icmp .lt 41, 3) := by decide +kernel
theorem dX7_table_5 : decode cX7_table 5 = .ok (.iload_n 1, 1) := by decide +kernel
theorem dX7_table_6 : decode cX7_table 6 = .ok (.bipush 60, 2) := by decide +kernel
theorem dX7_table_8 : decode cX7_table 8 = .ok (.if_icmp .gt 35, 3) := by decide +kernel
theorem dX7_table_11 : decode cX7_table 11 = .ok (.iload_n 2, 1) := by decide +kernel
theorem dX7_table_12 : decode cX7_table 12 = .ok (.iconst 2, 1) := by decide +kernel
theorem dX7_table_13 : decode cX7_table 13 = .ok (.if_icmp .lt 30, 3) := by decide +kernel
theorem dX7_table_16 : decode cX7_table 16 = .ok (.iload_n 2, 1) := by decide +kernel
theorem dX7_table_17 : decode cX7_table 17 = .ok (.bipush 40, 2) := by decide +kernel
theorem dX7_table_19 : decode cX7_table 19 = .ok (.if_icmp .gt 24, 3) := by decide +kernel
theorem dX7_table_22 : decode cX7_table 22 = .ok (.iload_n 3, 1) := by decide +kernel
theorem dX7_table_23 : decode cX7_table 23 = .ok (.iconst 1, 1) := by decide +kernel
theorem dX7_table_24 : decode cX7_table 24 = .ok (.if_icmp .lt 19, 3) := by decide +kernel
theorem dX7_table_27 : decode cX7_table 27 = .ok (.iload_n 3, 1) := by decide +kernel
theorem dX7_table_28 : decode cX7_table 28 = .ok (.iconst 4, 1) := by decide +kernel
theorem dX7_table_29 : decode cX7_table 29 = .ok (.if_icmp .gt 14, 3) := by decide +kernel
theorem dX7_table_32 : decode cX7_table 32 = .ok (.iload 4, 2) := by decide +kernel
theorem dX7_table_34 : decode cX7_table 34 = .ok (.ifCond .lt 9, 3) := by decide +kernel
theorem dX7_table_37 : decode cX7_table 37 = .ok (.iload 4, 2) := by decide +kernel
theorem dX7_table_39 : decode cX7_table 39 = .ok (.iload_n 1, 1) := by decide +kernel
theorem dX7_table_40 : decode cX7_table 40 = .ok (.if_icmp .lt 5, 3) := by decide +kernel
theorem dX7_table_43 : decode cX7_table 43 = .ok (.iconst (-1), 1) := by decide +kernel
theorem dX7_table_44 : decode cX7_table 44 = .ok (.ireturn, 1) := by decide +kernel
theorem dX7_table_45 : decode cX7_table 45 = .ok (.iload 4, 2) := by decide +kernel
theorem dX7_table_47 : decode cX7_table 47 = .ok (.ifCond .le 13, 3) := by decide +kernel
theorem dX7_table_50 : decode cX7_table 50 = .ok (.aload_n 0, 1) := by decide +kernel
theorem dX7_table_51 : decode cX7_table 51 = .ok (.iload 4, 2) := by decide +kernel
theorem dX7_table_53 : decode cX7_table 53 = .ok (.iload_n 1, 1) := by decide +kernel
theorem dX7_table_54 : decode cX7_table 54 = .ok (.iload_n 2, 1) := by decide +kernel
theorem dX7_table_55 : decode cX7_table 55 = .ok (.iload_n 3, 1) := by decide +kernel
theorem dX7_table_56 : decode cX7_table 56 = .ok (.invokevirtual 172, 3) := by decide +kernel
theorem dX7_table_59 : decode cX7_table 59 = .ok (.ireturn, 1) := by decide +kernel
theorem dX7_table_60 : decode cX7_table 60 = .ok (.iconst 1, 1) := by decide +kernel
theorem dX7_table_61 : decode cX7_table 61 = .ok (.istore 5, 2) := by decide +kernel
theorem dX7_table_63 : decode cX7_table 63 = .ok (.iconst 0, 1) := by decide +kernel
theorem dX7_table_64 : decode cX7_table 64 = .ok (.istore 6, 2) := by decide +kernel
theorem dX7_table_66 : decode cX7_table 66 = .ok (.iconst 1, 1) := by decide +kernel
theorem dX7_table_67 : decode cX7_table 67 = .ok (.istore 7, 2) := by decide +kernel
theorem dX7_table_69 : decode cX7_table 69 = .ok (.iload 7, 2) := by decide +kernel
theorem dX7_table_71 : decode cX7_table 71 = .ok (.iload_n 1, 1) := by decide +kernel
theorem dX7_table_72 : decode cX7_table 72 = .ok (.if_icmp .ge 45, 3) := by decide +kernel
theorem dX7_table_75 : decode cX7_table 75 = .ok (.aload_n 0, 1) := by decide +kernel
theorem dX7_table_76 : decode cX7_table 76 = .ok (.iload 7, 2) := by decide +kernel
theorem dX7_table_78 : decode cX7_table 78 = .ok (.iload_n 1, 1) := by decide +kernel
theorem dX7_table_79 : decode cX7_table 79 = .ok (.iload_n 2, 1) := by decide +kernel
theorem dX7_table_80 : decode cX7_table 80 = .ok (.iload_n 3, 1) := by decide +kernel
theorem dX7_table_81 : decode cX7_table 81 = .ok (.invokevirtual 172, 3) := by decide +kernel
theorem dX7_table_84 : decode cX7_table 84 = .ok (.istore 8, 2) := by decide +kernel
theorem dX7_table_86 : decode cX7_table 86 = .ok (.iload 8, 2) := by decide +kernel
theorem dX7_table_88 : decode cX7_table 88 = .ok (.bipush (-4), 2) := by decide +kernel
theorem dX7_table_90 : decode cX7_table 90 = .ok (.if_icmp .ne 6, 3) := by decide +kernel
theorem dX7_table_93 : decode cX7_table 93 = .ok (.iload 7, 2) := by decide +kernel
theorem dX7_table_95 : decode cX7_table 95 = .ok (.ireturn, 1) := by decide +kernel
theorem dX7_table_96 : decode cX7_table 96 = .ok (.iload 8, 2) := by decide +kernel
theorem dX7_table_98 : decode cX7_table 98 = .ok (.iload 6, 2) := by decide +kernel
theorem dX7_table_100 : decode cX7_table 100 = .ok (.if_icmp .le 11, 3) := by decide +kernel
theorem dX7_table_103 : decode cX7_table 103 = .ok (.iload 8, 2) := by decide +kernel
theorem dX7_table_105 : decode cX7_table 105 = .ok (.istore 6, 2) := by decide +kernel
theorem dX7_table_107 : decode cX7_table 107 = .ok (.iload 7, 2) := by decide +kernel
theorem dX7_table_109 : decode cX7_table 109 = .ok (.istore 5, 2) := by decide +kernel
theorem dX7_table_111 : decode cX7_table 111 = .ok (.iinc 7 1, 3) := by decide +kernel
theorem dX7_table_114 : decode cX7_table 114 = .ok (.goto (-45), 3) := by decide +kernel
theorem dX7_table_117 : decode cX7_table 117 = .ok (.iload 5, 2) := by decide +kernel
theorem dX7_table_119 : decode cX7_table 119 = .ok (.ireturn, 1) := by decide +kernel
abbrev po_X7_table (cI cJ : ClassId) (hX7 : Nat) (aX7_above : Nat) (aX7_below : Nat) (hX3 : Nat) (hX2 : Nat) (hX1 : Nat) (hX6 : Nat) (hX0 : Nat) (hX5 : Nat) (aX2_tried : Nat) (aX2_triedLeave : Nat) (aX2_numbers : Nat) (aX2_weights : Nat) (aX2_weightsAhead : Nat) (aX2_grains : Nat) (aX2_placeFrom : Nat) (aX2_first : Nat) (Q : Int → (Int → Int) → (Int → Int) → (Int → Int) → (Int → Int) → (Int → Int) → (Int → Int) → (Int → Int) → (Int → Int) → Int → Int → Int → Int → Int → Int → Prop) : Option Value → va_W → Prop := fun rv w1 => ∃ (r0 : Int) (n_tried : Int → Int) (n_triedLeave : Int → Int) (n_numbers : Int → Int) (n_weights : Int → Int) (n_weightsAhead : Int → Int) (n_grains : Int → Int) (n_placeFrom : Int → Int) (n_first : Int → Int) (n_barred : Int) (n_limit : Int) (n_size : Int) (n_parts : Int) (n_wanted : Int) (n_found : Int), rv = some (.int (i32 r0)) ∧ w1 = [(hX7, .inr (6, [.ref aX7_above, .ref aX7_below, .ref hX3, .ref hX2, .ref hX1, .ref hX6, .ref hX0, .ref hX5])), (hX2, .inr (2, [.ref aX2_tried, .ref aX2_triedLeave, .ref aX2_numbers, .ref aX2_weights, .ref aX2_weightsAhead, .ref aX2_grains, .ref aX2_placeFrom, .ref aX2_first, .long (i64 n_barred), .int (i32 n_limit), .int (i32 n_size), .long (i64 n_parts), .long (i64 n_wanted), .int (i32 n_found)])), (aX2_tried, aI cI 5 n_tried), (aX2_triedLeave, aL cJ 5 n_triedLeave), (aX2_numbers, aI cI 60 n_numbers), (aX2_weights, aL cJ 60 n_weights), (aX2_weightsAhead, aL cJ 61 n_weightsAhead), (aX2_grains, aL cJ 61 n_grains), (aX2_placeFrom, aI cI 61 n_placeFrom), (aX2_first, aL cJ 1 n_first)] ∧ r32 r0 ∧ rr32 n_tried ∧ rr64 n_triedLeave ∧ rr32 n_numbers ∧ rr64 n_weights ∧ rr64 n_weightsAhead ∧ rr64 n_grains ∧ rr32 n_placeFrom ∧ rr64 n_first ∧ r64 n_barred ∧ r32 n_limit ∧ r32 n_size ∧ r64 n_parts ∧ r64 n_wanted ∧ r32 n_found ∧ Q r0 n_tried n_triedLeave n_numbers n_weights n_weightsAhead n_grains n_placeFrom n_first n_barred n_limit n_size n_parts n_wanted n_found
def wp_X7_table_43 (Q : Int → (Int → Int) → (Int → Int) → (Int → Int) → (Int → Int) → (Int → Int) → (Int → Int) → (Int → Int) → (Int → Int) → Int → Int → Int → Int → Int → Int → Prop) (n_tried : Int → Int) (n_triedLeave : Int → Int) (n_numbers : Int → Int) (n_weights : Int → Int) (n_weightsAhead : Int → Int) (n_grains : Int → Int) (n_placeFrom : Int → Int) (n_first : Int → Int) (n_barred : Int) (n_limit : Int) (n_size : Int) (n_parts : Int) (n_wanted : Int) (n_found : Int) : Prop := Q (-1) n_tried n_triedLeave n_numbers n_weights n_weightsAhead n_grains n_placeFrom n_first n_barred n_limit n_size n_parts n_wanted n_found
set_option maxHeartbeats 4000000 in
set_option maxRecDepth 100000 in
theorem s_X7_table_43 {X : Cx} (g : Gd X cX7_table RX7 (some .int) 9) (hR : X.R = rmL 15 0 0) (hX7 : Nat) (aX7_above : Nat) (aX7_below : Nat) (hX3 : Nat) (hX2 : Nat) (hX1 : Nat) (hX6 : Nat) (hX0 : Nat) (hX5 : Nat) (aX2_tried : Nat) (aX2_triedLeave : Nat) (aX2_numbers : Nat) (aX2_weights : Nat) (aX2_weightsAhead : Nat) (aX2_grains : Nat) (aX2_placeFrom : Nat) (aX2_first : Nat) (Q : Int → (Int → Int) → (Int → Int) → (Int → Int) → (Int → Int) → (Int → Int) → (Int → Int) → (Int → Int) → (Int → Int) → Int → Int → Int → Int → Int → Int → Prop) (hF : FQ X 0 0 (po_X7_table X.cI X.cJ hX7 aX7_above aX7_below hX3 hX2 hX1 hX6 hX0 hX5 aX2_tried aX2_triedLeave aX2_numbers aX2_weights aX2_weightsAhead aX2_grains aX2_placeFrom aX2_first Q)) : ∀ (n_tried : Int → Int) (n_triedLeave : Int → Int) (n_numbers : Int → Int) (n_weights : Int → Int) (n_weightsAhead : Int → Int) (n_grains : Int → Int) (n_placeFrom : Int → Int) (n_first : Int → Int) (n_barred : Int) (n_limit : Int) (n_size : Int) (n_parts : Int) (n_wanted : Int) (n_found : Int), rr32 n_tried → rr64 n_triedLeave → rr32 n_numbers → rr64 n_weights → rr64 n_weightsAhead → rr64 n_grains → rr32 n_placeFrom → rr64 n_first → r64 n_barred → r32 n_limit → r32 n_size → r64 n_parts → r64 n_wanted → r32 n_found → wp_X7_table_43 Q n_tried n_triedLeave n_numbers n_weights n_weightsAhead n_grains n_placeFrom n_first n_barred n_limit n_size n_parts n_wanted n_found → Wat X 0 0 43 [] [] [(hX7, .inr (6, [.ref aX7_above, .ref aX7_below, .ref hX3, .ref hX2, .ref hX1, .ref hX6, .ref hX0, .ref hX5])), (hX2, .inr (2, [.ref aX2_tried, .ref aX2_triedLeave, .ref aX2_numbers, .ref aX2_weights, .ref aX2_weightsAhead, .ref aX2_grains, .ref aX2_placeFrom, .ref aX2_first, .long (i64 n_barred), .int (i32 n_limit), .int (i32 n_size), .long (i64 n_parts), .long (i64 n_wanted), .int (i32 n_found)])), (aX2_tried, aI X.cI 5 n_tried), (aX2_triedLeave, aL X.cJ 5 n_triedLeave), (aX2_numbers, aI X.cI 60 n_numbers), (aX2_weights, aL X.cJ 60 n_weights), (aX2_weightsAhead, aL X.cJ 61 n_weightsAhead), (aX2_grains, aL X.cJ 61 n_grains), (aX2_placeFrom, aI X.cI 61 n_placeFrom), (aX2_first, aL X.cJ 1 n_first)] := by
  intro n_tried n_triedLeave n_numbers n_weights n_weightsAhead n_grains n_placeFrom n_first n_barred n_limit n_size n_parts n_wanted n_found r_n_tried r_n_triedLeave r_n_numbers r_n_weights r_n_weightsAhead r_n_grains r_n_placeFrom r_n_first r_n_barred r_n_limit r_n_size r_n_parts r_n_wanted r_n_found h
  rw [wp_X7_table_43] at h
  refine q_iconst g (-1) dX7_table_43 ?_
  exact q_iret g hF ⟨(-1), n_tried, n_triedLeave, n_numbers, n_weights, n_weightsAhead, n_grains, n_placeFrom, n_first, n_barred, n_limit, n_size, n_parts, n_wanted, n_found, rfl, rfl, (r32_lit _ (by decide)), r_n_tried, r_n_triedLeave, r_n_numbers, r_n_weights, r_n_weightsAhead, r_n_grains, r_n_placeFrom, r_n_first, r_n_barred, r_n_limit, r_n_size, r_n_parts, r_n_wanted, r_n_found, h⟩ dX7_table_44
def wp_X7_table_111 (Q : Int → (Int → Int) → (Int → Int) → (Int → Int) → (Int → Int) → (Int → Int) → (Int → Int) → (Int → Int) → (Int → Int) → Int → Int → Int → Int → Int → Int → Prop) (K_69 : (Int → Int) → (Int → Int) → (Int → Int) → (Int → Int) → (Int → Int) → (Int → Int) → (Int → Int) → (Int → Int) → Int → Int → Int → Int → Int → Int → Int → Int → Int → Int → Int → Int → Prop) (n_tried : Int → Int) (n_triedLeave : Int → Int) (n_numbers : Int → Int) (n_weights : Int → Int) (n_weightsAhead : Int → Int) (n_grains : Int → Int) (n_placeFrom : Int → Int) (n_first : Int → Int) (n_barred : Int) (n_limit : Int) (n_size : Int) (n_parts : Int) (n_wanted : Int) (n_found : Int) (l1 : Int) (l2 : Int) (l3 : Int) (l5 : Int) (l6 : Int) (l7 : Int) : Prop := (r32 (l7 + 1) ∧ K_69 n_tried n_triedLeave n_numbers n_weights n_weightsAhead n_grains n_placeFrom n_first n_barred n_limit n_size n_parts n_wanted n_found l1 l2 l3 l5 l6 (l7 + 1))
set_option maxHeartbeats 4000000 in
set_option maxRecDepth 100000 in
theorem s_X7_table_111 {X : Cx} (g : Gd X cX7_table RX7 (some .int) 9) (hR : X.R = rmL 15 0 0) (hX7 : Nat) (aX7_above : Nat) (aX7_below : Nat) (hX3 : Nat) (hX2 : Nat) (hX1 : Nat) (hX6 : Nat) (hX0 : Nat) (hX5 : Nat) (aX2_tried : Nat) (aX2_triedLeave : Nat) (aX2_numbers : Nat) (aX2_weights : Nat) (aX2_weightsAhead : Nat) (aX2_grains : Nat) (aX2_placeFrom : Nat) (aX2_first : Nat) (Q : Int → (Int → Int) → (Int → Int) → (Int → Int) → (Int → Int) → (Int → Int) → (Int → Int) → (Int → Int) → (Int → Int) → Int → Int → Int → Int → Int → Int → Prop) (hF : FQ X 0 0 (po_X7_table X.cI X.cJ hX7 aX7_above aX7_below hX3 hX2 hX1 hX6 hX0 hX5 aX2_tried aX2_triedLeave aX2_numbers aX2_weights aX2_weightsAhead aX2_grains aX2_placeFrom aX2_first Q)) (K_69 : (Int → Int) → (Int → Int) → (Int → Int) → (Int → Int) → (Int → Int) → (Int → Int) → (Int → Int) → (Int → Int) → Int → Int → Int → Int → Int → Int → Int → Int → Int → Int → Int → Int → Prop) (hK_69 : ∀ (n_tried : Int → Int) (n_triedLeave : Int → Int) (n_numbers : Int → Int) (n_weights : Int → Int) (n_weightsAhead : Int → Int) (n_grains : Int → Int) (n_placeFrom : Int → Int) (n_first : Int → Int) (n_barred : Int) (n_limit : Int) (n_size : Int) (n_parts : Int) (n_wanted : Int) (n_found : Int) (l1 : Int) (l2 : Int) (l3 : Int) (l5 : Int) (l6 : Int) (l7 : Int), rr32 n_tried → rr64 n_triedLeave → rr32 n_numbers → rr64 n_weights → rr64 n_weightsAhead → rr64 n_grains → rr32 n_placeFrom → rr64 n_first → r64 n_barred → r32 n_limit → r32 n_size → r64 n_parts → r64 n_wanted → r32 n_found → r32 l1 → r32 l2 → r32 l3 → r32 l5 → r32 l6 → r32 l7 → K_69 n_tried n_triedLeave n_numbers n_weights n_weightsAhead n_grains n_placeFrom n_first n_barred n_limit n_size n_parts n_wanted n_found l1 l2 l3 l5 l6 l7 → Wat X 0 0 69 [(0, .ref hX7), (1, .int (i32 l1)), (2, .int (i32 l2)), (3, .int (i32 l3)), (5, .int (i32 l5)), (6, .int (i32 l6)), (7, .int (i32 l7))] [] [(hX7, .inr (6, [.ref aX7_above, .ref aX7_below, .ref hX3, .ref hX2, .ref hX1, .ref hX6, .ref hX0, .ref hX5])), (hX2, .inr (2, [.ref aX2_tried, .ref aX2_triedLeave, .ref aX2_numbers, .ref aX2_weights, .ref aX2_weightsAhead, .ref aX2_grains, .ref aX2_placeFrom, .ref aX2_first, .long (i64 n_barred), .int (i32 n_limit), .int (i32 n_size), .long (i64 n_parts), .long (i64 n_wanted), .int (i32 n_found)])), (aX2_tried, aI X.cI 5 n_tried), (aX2_triedLeave, aL X.cJ 5 n_triedLeave), (aX2_numbers, aI X.cI 60 n_numbers), (aX2_weights, aL X.cJ 60 n_weights), (aX2_weightsAhead, aL X.cJ 61 n_weightsAhead), (aX2_grains, aL X.cJ 61 n_grains), (aX2_placeFrom, aI X.cI 61 n_placeFrom), (aX2_first, aL X.cJ 1 n_first)]) : ∀ (n_tried : Int → Int) (n_triedLeave : Int → Int) (n_numbers : Int → Int) (n_weights : Int → Int) (n_weightsAhead : Int → Int) (n_grains : Int → Int) (n_placeFrom : Int → Int) (n_first : Int → Int) (n_barred : Int) (n_limit : Int) (n_size : Int) (n_parts : Int) (n_wanted : Int) (n_found : Int) (l1 : Int) (l2 : Int) (l3 : Int) (l5 : Int) (l6 : Int) (l7 : Int), rr32 n_tried → rr64 n_triedLeave → rr32 n_numbers → rr64 n_weights → rr64 n_weightsAhead → rr64 n_grains → rr32 n_placeFrom → rr64 n_first → r64 n_barred → r32 n_limit → r32 n_size → r64 n_parts → r64 n_wanted → r32 n_found → r32 l1 → r32 l2 → r32 l3 → r32 l5 → r32 l6 → r32 l7 → wp_X7_table_111 Q K_69 n_tried n_triedLeave n_numbers n_weights n_weightsAhead n_grains n_placeFrom n_first n_barred n_limit n_size n_parts n_wanted n_found l1 l2 l3 l5 l6 l7 → Wat X 0 0 111 [(0, .ref hX7), (1, .int (i32 l1)), (2, .int (i32 l2)), (3, .int (i32 l3)), (5, .int (i32 l5)), (6, .int (i32 l6)), (7, .int (i32 l7))] [] [(hX7, .inr (6, [.ref aX7_above, .ref aX7_below, .ref hX3, .ref hX2, .ref hX1, .ref hX6, .ref hX0, .ref hX5])), (hX2, .inr (2, [.ref aX2_tried, .ref aX2_triedLeave, .ref aX2_numbers, .ref aX2_weights, .ref aX2_weightsAhead, .ref aX2_grains, .ref aX2_placeFrom, .ref aX2_first, .long (i64 n_barred), .int (i32 n_limit), .int (i32 n_size), .long (i64 n_parts), .long (i64 n_wanted), .int (i32 n_found)])), (aX2_tried, aI X.cI 5 n_tried), (aX2_triedLeave, aL X.cJ 5 n_triedLeave), (aX2_numbers, aI X.cI 60 n_numbers), (aX2_weights, aL X.cJ 60 n_weights), (aX2_weightsAhead, aL X.cJ 61 n_weightsAhead), (aX2_grains, aL X.cJ 61 n_grains), (aX2_placeFrom, aI X.cI 61 n_placeFrom), (aX2_first, aL X.cJ 1 n_first)] := by
  intro n_tried n_triedLeave n_numbers n_weights n_weightsAhead n_grains n_placeFrom n_first n_barred n_limit n_size n_parts n_wanted n_found l1 l2 l3 l5 l6 l7 r_n_tried r_n_triedLeave r_n_numbers r_n_weights r_n_weightsAhead r_n_grains r_n_placeFrom r_n_first r_n_barred r_n_limit r_n_size r_n_parts r_n_wanted r_n_found r_l1 r_l2 r_l3 r_l5 r_l6 r_l7 h
  rw [wp_X7_table_111] at h
  obtain ⟨c111, h⟩ := h
  refine q_iinc (lv' := [(7, .int (i32 (l7 + 1))), (0, .ref hX7), (1, .int (i32 l1)), (2, .int (i32 l2)), (3, .int (i32 l3)), (5, .int (i32 l5)), (6, .int (i32 l6))]) g 7 6 1 (by decide) rfl rfl dX7_table_111 ?_
  refine q_goto g (-45) 69 (by decide) dX7_table_114 ?_
  refine q_lv (lv' := [(0, .ref hX7), (1, .int (i32 l1)), (2, .int (i32 l2)), (3, .int (i32 l3)), (5, .int (i32 l5)), (6, .int (i32 l6)), (7, .int (i32 (l7 + 1)))]) [1, 2, 3, 4, 5, 6, 0] rfl ?_
  exact hK_69 n_tried n_triedLeave n_numbers n_weights n_weightsAhead n_grains n_placeFrom n_first n_barred n_limit n_size n_parts n_wanted n_found l1 l2 l3 l5 l6 (l7 + 1) r_n_tried r_n_triedLeave r_n_numbers r_n_weights r_n_weightsAhead r_n_grains r_n_placeFrom r_n_first r_n_barred r_n_limit r_n_size r_n_parts r_n_wanted r_n_found r_l1 r_l2 r_l3 r_l5 r_l6 c111 h
def wp_X7_table_69 (Q : Int → (Int → Int) → (Int → Int) → (Int → Int) → (Int → Int) → (Int → Int) → (Int → Int) → (Int → Int) → (Int → Int) → Int → Int → Int → Int → Int → Int → Prop) : Nat → (Int → Int) → (Int → Int) → (Int → Int) → (Int → Int) → (Int → Int) → (Int → Int) → (Int → Int) → (Int → Int) → Int → Int → Int → Int → Int → Int → Int → Int → Int → Int → Int → Int → Prop
  | 0, _, _, _, _, _, _, _, _, _, _, _, _, _, _, _, _, _, _, _, _ => False
  | n + 1, n_tried, n_triedLeave, n_numbers, n_weights, n_weightsAhead, n_grains, n_placeFrom, n_first, n_barred, n_limit, n_size, n_parts, n_wanted, n_found, l1, l2, l3, l5, l6, l7 => ((l1 ≤ l7 → Q l5 n_tried n_triedLeave n_numbers n_weights n_weightsAhead n_grains n_placeFrom n_first n_barred n_limit n_size n_parts n_wanted n_found) ∧
  (¬ (l1 ≤ l7) → wp_X7_fewest (fun (x81 : Int) (n_tried_81 : Int → Int) (n_triedLeave_81 : Int → Int) (n_numbers_81 : Int → Int) (n_weights_81 : Int → Int) (n_weightsAhead_81 : Int → Int) (n_grains_81 : Int → Int) (n_placeFrom_81 : Int → Int) (n_first_81 : Int → Int) (n_barred_81 : Int) (n_limit_81 : Int) (n_size_81 : Int) (n_parts_81 : Int) (n_wanted_81 : Int) (n_found_81 : Int) => ((¬ x81 = (-4) → ((x81 ≤ l6 → wp_X7_table_111 Q (wp_X7_table_69 Q n) n_tried_81 n_triedLeave_81 n_numbers_81 n_weights_81 n_weightsAhead_81 n_grains_81 n_placeFrom_81 n_first_81 n_barred_81 n_limit_81 n_size_81 n_parts_81 n_wanted_81 n_found_81 l1 l2 l3 l5 l6 l7) ∧
  (¬ (x81 ≤ l6) → wp_X7_table_111 Q (wp_X7_table_69 Q n) n_tried_81 n_triedLeave_81 n_numbers_81 n_weights_81 n_weightsAhead_81 n_grains_81 n_placeFrom_81 n_first_81 n_barred_81 n_limit_81 n_size_81 n_parts_81 n_wanted_81 n_found_81 l1 l2 l3 l7 x81 l7))) ∧
  (x81 = (-4) → Q l7 n_tried_81 n_triedLeave_81 n_numbers_81 n_weights_81 n_weightsAhead_81 n_grains_81 n_placeFrom_81 n_first_81 n_barred_81 n_limit_81 n_size_81 n_parts_81 n_wanted_81 n_found_81))) n_tried n_triedLeave n_numbers n_weights n_weightsAhead n_grains n_placeFrom n_first n_barred n_limit n_size n_parts n_wanted n_found l7 l1 l2 l3))
set_option maxHeartbeats 4000000 in
set_option maxRecDepth 100000 in
theorem s_X7_table_69 {X : Cx} (g : Gd X cX7_table RX7 (some .int) 9) (hR : X.R = rmL 15 0 0) (hX7 : Nat) (aX7_above : Nat) (aX7_below : Nat) (hX3 : Nat) (hX2 : Nat) (hX1 : Nat) (hX6 : Nat) (hX0 : Nat) (hX5 : Nat) (aX2_tried : Nat) (aX2_triedLeave : Nat) (aX2_numbers : Nat) (aX2_weights : Nat) (aX2_weightsAhead : Nat) (aX2_grains : Nat) (aX2_placeFrom : Nat) (aX2_first : Nat) (Q : Int → (Int → Int) → (Int → Int) → (Int → Int) → (Int → Int) → (Int → Int) → (Int → Int) → (Int → Int) → (Int → Int) → Int → Int → Int → Int → Int → Int → Prop) (hF : FQ X 0 0 (po_X7_table X.cI X.cJ hX7 aX7_above aX7_below hX3 hX2 hX1 hX6 hX0 hX5 aX2_tried aX2_triedLeave aX2_numbers aX2_weights aX2_weightsAhead aX2_grains aX2_placeFrom aX2_first Q)) : ∀ (n : Nat) (n_tried : Int → Int) (n_triedLeave : Int → Int) (n_numbers : Int → Int) (n_weights : Int → Int) (n_weightsAhead : Int → Int) (n_grains : Int → Int) (n_placeFrom : Int → Int) (n_first : Int → Int) (n_barred : Int) (n_limit : Int) (n_size : Int) (n_parts : Int) (n_wanted : Int) (n_found : Int) (l1 : Int) (l2 : Int) (l3 : Int) (l5 : Int) (l6 : Int) (l7 : Int), rr32 n_tried → rr64 n_triedLeave → rr32 n_numbers → rr64 n_weights → rr64 n_weightsAhead → rr64 n_grains → rr32 n_placeFrom → rr64 n_first → r64 n_barred → r32 n_limit → r32 n_size → r64 n_parts → r64 n_wanted → r32 n_found → r32 l1 → r32 l2 → r32 l3 → r32 l5 → r32 l6 → r32 l7 → wp_X7_table_69 Q n n_tried n_triedLeave n_numbers n_weights n_weightsAhead n_grains n_placeFrom n_first n_barred n_limit n_size n_parts n_wanted n_found l1 l2 l3 l5 l6 l7 → Wat X 0 0 69 [(0, .ref hX7), (1, .int (i32 l1)), (2, .int (i32 l2)), (3, .int (i32 l3)), (5, .int (i32 l5)), (6, .int (i32 l6)), (7, .int (i32 l7))] [] [(hX7, .inr (6, [.ref aX7_above, .ref aX7_below, .ref hX3, .ref hX2, .ref hX1, .ref hX6, .ref hX0, .ref hX5])), (hX2, .inr (2, [.ref aX2_tried, .ref aX2_triedLeave, .ref aX2_numbers, .ref aX2_weights, .ref aX2_weightsAhead, .ref aX2_grains, .ref aX2_placeFrom, .ref aX2_first, .long (i64 n_barred), .int (i32 n_limit), .int (i32 n_size), .long (i64 n_parts), .long (i64 n_wanted), .int (i32 n_found)])), (aX2_tried, aI X.cI 5 n_tried), (aX2_triedLeave, aL X.cJ 5 n_triedLeave), (aX2_numbers, aI X.cI 60 n_numbers), (aX2_weights, aL X.cJ 60 n_weights), (aX2_weightsAhead, aL X.cJ 61 n_weightsAhead), (aX2_grains, aL X.cJ 61 n_grains), (aX2_placeFrom, aI X.cI 61 n_placeFrom), (aX2_first, aL X.cJ 1 n_first)] := by
  intro n
  induction n with
  | zero => intro n_tried n_triedLeave n_numbers n_weights n_weightsAhead n_grains n_placeFrom n_first n_barred n_limit n_size n_parts n_wanted n_found l1 l2 l3 l5 l6 l7 r_n_tried r_n_triedLeave r_n_numbers r_n_weights r_n_weightsAhead r_n_grains r_n_placeFrom r_n_first r_n_barred r_n_limit r_n_size r_n_parts r_n_wanted r_n_found r_l1 r_l2 r_l3 r_l5 r_l6 r_l7 h; exact False.elim h
  | succ n ih =>
    intro n_tried n_triedLeave n_numbers n_weights n_weightsAhead n_grains n_placeFrom n_first n_barred n_limit n_size n_parts n_wanted n_found l1 l2 l3 l5 l6 l7 r_n_tried r_n_triedLeave r_n_numbers r_n_weights r_n_weightsAhead r_n_grains r_n_placeFrom r_n_first r_n_barred r_n_limit r_n_size r_n_parts r_n_wanted r_n_found r_l1 r_l2 r_l3 r_l5 r_l6 r_l7 h
    rw [wp_X7_table_69] at h
    refine q_iload g 7 6 rfl dX7_table_69 ?_
    refine q_iload_n g 1 1 rfl dX7_table_71 ?_
    refine q_icmp_ge g (45) 117 r_l7 r_l1 (by decide) dX7_table_72 (fun b72 => ?_) (fun b72 => ?_)
    · replace h := h.1 b72
      refine q_iload g 5 4 rfl dX7_table_117 ?_
      exact q_iret g hF ⟨l5, n_tried, n_triedLeave, n_numbers, n_weights, n_weightsAhead, n_grains, n_placeFrom, n_first, n_barred, n_limit, n_size, n_parts, n_wanted, n_found, rfl, rfl, r_l5, r_n_tried, r_n_triedLeave, r_n_numbers, r_n_weights, r_n_weightsAhead, r_n_grains, r_n_placeFrom, r_n_first, r_n_barred, r_n_limit, r_n_size, r_n_parts, r_n_wanted, r_n_found, h⟩ dX7_table_119
    replace h := h.2 b72
    refine q_aload_n g 0 0 rfl dX7_table_75 ?_
    refine q_iload g 7 6 rfl dX7_table_76 ?_
    refine q_iload_n g 1 1 rfl dX7_table_78 ?_
    refine q_iload_n g 2 2 rfl dX7_table_79 ?_
    refine q_iload_n g 3 3 rfl dX7_table_80 ?_
    refine q_callV (lev := 14) (mc := 0) (ms := 0) g 172 (c_X7_fewest X.l X.D X.cI X.cJ X.zt hX7 aX7_above aX7_below hX3 hX2 hX1 hX6 hX0 hX5 aX2_tried aX2_triedLeave aX2_numbers aX2_weights aX2_weightsAhead aX2_grains aX2_placeFrom aX2_first n_barred n_limit n_size n_parts n_wanted n_found n_tried n_triedLeave n_numbers n_weights n_weightsAhead n_grains n_placeFrom n_first l7 l1 l2 l3 _ r_n_tried r_n_triedLeave r_n_numbers r_n_weights r_n_weightsAhead r_n_grains r_n_placeFrom r_n_first r_n_barred r_n_limit r_n_size r_n_parts r_n_wanted r_n_found r_l7 r_l1 r_l2 r_l3 h) (wr := []) [0, 1, 2, 3, 4, 5, 6, 7, 8, 9] [] rfl rfl rfl (by decide) (by decide) (by decide) (ci := 6) rfl rfl rfl wM_X7_172 wI_X7_fewest wS_X7_fewest wZ_X7 wC_X7_fewest 4 rfl (by decide +kernel) (by rw [hR]; exact ⟨by show 14 + 1 ≤ 15; omega, by show 8 + (6 + 11) + 100 * 14 ≤ 100 * 15; omega⟩) (by rw [hR]; exact ⟨Nat.le_refl _, Nat.le_refl _⟩) (Nat.le_of_ble_eq_true rfl) rfl dX7_table_81 (fun rv w1 hq => ?_)
    obtain ⟨x81, n_tried_81, n_triedLeave_81, n_numbers_81, n_weights_81, n_weightsAhead_81, n_grains_81, n_placeFrom_81, n_first_81, n_barred_81, n_limit_81, n_size_81, n_parts_81, n_wanted_81, n_found_81, rfl, rfl, rx81, rn_tried_81, rn_triedLeave_81, rn_numbers_81, rn_weights_81, rn_weightsAhead_81, rn_grains_81, rn_placeFrom_81, rn_first_81, rn_barred_81, rn_limit_81, rn_size_81, rn_parts_81, rn_wanted_81, rn_found_81, h⟩ := hq
    show Wat X 0 0 84 [(0, .ref hX7), (1, .int (i32 l1)), (2, .int (i32 l2)), (3, .int (i32 l3)), (5, .int (i32 l5)), (6, .int (i32 l6)), (7, .int (i32 l7))] [.int (i32 x81)] [(hX7, .inr (6, [.ref aX7_above, .ref aX7_below, .ref hX3, .ref hX2, .ref hX1, .ref hX6, .ref hX0, .ref hX5])), (hX2, .inr (2, [.ref aX2_tried, .ref aX2_triedLeave, .ref aX2_numbers, .ref aX2_weights, .ref aX2_weightsAhead, .ref aX2_grains, .ref aX2_placeFrom, .ref aX2_first, .long (i64 n_barred_81), .int (i32 n_limit_81), .int (i32 n_size_81), .long (i64 n_parts_81), .long (i64 n_wanted_81), .int (i32 n_found_81)])), (aX2_tried, aI X.cI 5 n_tried_81), (aX2_triedLeave, aL X.cJ 5 n_triedLeave_81), (aX2_numbers, aI X.cI 60 n_numbers_81), (aX2_weights, aL X.cJ 60 n_weights_81), (aX2_weightsAhead, aL X.cJ 61 n_weightsAhead_81), (aX2_grains, aL X.cJ 61 n_grains_81), (aX2_placeFrom, aI X.cI 61 n_placeFrom_81), (aX2_first, aL X.cJ 1 n_first_81)]
    refine q_istore (lv' := [(8, .int (i32 x81)), (0, .ref hX7), (1, .int (i32 l1)), (2, .int (i32 l2)), (3, .int (i32 l3)), (5, .int (i32 l5)), (6, .int (i32 l6)), (7, .int (i32 l7))]) g 8   (by decide) rfl dX7_table_84 ?_
    refine q_iload g 8 0 rfl dX7_table_86 ?_
    refine q_bipush g (-4) (by decide) (by decide) dX7_table_88 ?_
    refine q_icmp_ne g (6) 96 rx81 (r32_lit _ (by decide)) (by decide) dX7_table_90 (fun b90 => ?_) (fun b90 => ?_)
    · replace h := h.1 b90
      refine q_iload g 8 0 rfl dX7_table_96 ?_
      refine q_iload g 6 6 rfl dX7_table_98 ?_
      refine q_icmp_le g (11) 111 rx81 r_l6 (by decide) dX7_table_100 (fun b100 => ?_) (fun b100 => ?_)
      · replace h := h.1 b100
        refine q_lv (lv' := [(0, .ref hX7), (1, .int (i32 l1)), (2, .int (i32 l2)), (3, .int (i32 l3)), (5, .int (i32 l5)), (6, .int (i32 l6)), (7, .int (i32 l7))]) [1, 2, 3, 4, 5, 6, 7] rfl ?_
        exact s_X7_table_111 g hR hX7 aX7_above aX7_below hX3 hX2 hX1 hX6 hX0 hX5 aX2_tried aX2_triedLeave aX2_numbers aX2_weights aX2_weightsAhead aX2_grains aX2_placeFrom aX2_first Q hF (wp_X7_table_69 Q n) (fun v0 v1 v2 v3 v4 v5 v6 v7 v8 v9 v10 v11 v12 v13 v14 v15 v16 v17 v18 v19 w0 w1 w2 w3 w4 w5 w6 w7 w8 w9 w10 w11 w12 w13 w14 w15 w16 w17 w18 w19 hh => ih v0 v1 v2 v3 v4 v5 v6 v7 v8 v9 v10 v11 v12 v13 v14 v15 v16 v17 v18 v19 w0 w1 w2 w3 w4 w5 w6 w7 w8 w9 w10 w11 w12 w13 w14 w15 w16 w17 w18 w19 hh) n_tried_81 n_triedLeave_81 n_numbers_81 n_weights_81 n_weightsAhead_81 n_grains_81 n_placeFrom_81 n_first_81 n_barred_81 n_limit_81 n_size_81 n_parts_81 n_wanted_81 n_found_81 l1 l2 l3 l5 l6 l7 rn_tried_81 rn_triedLeave_81 rn_numbers_81 rn_weights_81 rn_weightsAhead_81 rn_grains_81 rn_placeFrom_81 rn_first_81 rn_barred_81 rn_limit_81 rn_size_81 rn_parts_81 rn_wanted_81 rn_found_81 r_l1 r_l2 r_l3 r_l5 r_l6 r_l7 h
      replace h := h.2 b100
      refine q_iload g 8 0 rfl dX7_table_103 ?_
      refine q_istore (lv' := [(6, .int (i32 x81)), (8, .int (i32 x81)), (0, .ref hX7), (1, .int (i32 l1)), (2, .int (i32 l2)), (3, .int (i32 l3)), (5, .int (i32 l5)), (7, .int (i32 l7))]) g 6   (by decide) rfl dX7_table_105 ?_
      refine q_iload g 7 7 rfl dX7_table_107 ?_
      refine q_istore (lv' := [(5, .int (i32 l7)), (6, .int (i32 x81)), (8, .int (i32 x81)), (0, .ref hX7), (1, .int (i32 l1)), (2, .int (i32 l2)), (3, .int (i32 l3)), (7, .int (i32 l7))]) g 5   (by decide) rfl dX7_table_109 ?_
      refine q_lv (lv' := [(0, .ref hX7), (1, .int (i32 l1)), (2, .int (i32 l2)), (3, .int (i32 l3)), (5, .int (i32 l7)), (6, .int (i32 x81)), (7, .int (i32 l7))]) [3, 4, 5, 6, 0, 1, 7] rfl ?_
      exact s_X7_table_111 g hR hX7 aX7_above aX7_below hX3 hX2 hX1 hX6 hX0 hX5 aX2_tried aX2_triedLeave aX2_numbers aX2_weights aX2_weightsAhead aX2_grains aX2_placeFrom aX2_first Q hF (wp_X7_table_69 Q n) (fun v0 v1 v2 v3 v4 v5 v6 v7 v8 v9 v10 v11 v12 v13 v14 v15 v16 v17 v18 v19 w0 w1 w2 w3 w4 w5 w6 w7 w8 w9 w10 w11 w12 w13 w14 w15 w16 w17 w18 w19 hh => ih v0 v1 v2 v3 v4 v5 v6 v7 v8 v9 v10 v11 v12 v13 v14 v15 v16 v17 v18 v19 w0 w1 w2 w3 w4 w5 w6 w7 w8 w9 w10 w11 w12 w13 w14 w15 w16 w17 w18 w19 hh) n_tried_81 n_triedLeave_81 n_numbers_81 n_weights_81 n_weightsAhead_81 n_grains_81 n_placeFrom_81 n_first_81 n_barred_81 n_limit_81 n_size_81 n_parts_81 n_wanted_81 n_found_81 l1 l2 l3 l7 x81 l7 rn_tried_81 rn_triedLeave_81 rn_numbers_81 rn_weights_81 rn_weightsAhead_81 rn_grains_81 rn_placeFrom_81 rn_first_81 rn_barred_81 rn_limit_81 rn_size_81 rn_parts_81 rn_wanted_81 rn_found_81 r_l1 r_l2 r_l3 r_l7 rx81 r_l7 h
    replace h := h.2 b90
    refine q_iload g 7 7 rfl dX7_table_93 ?_
    exact q_iret g hF ⟨l7, n_tried_81, n_triedLeave_81, n_numbers_81, n_weights_81, n_weightsAhead_81, n_grains_81, n_placeFrom_81, n_first_81, n_barred_81, n_limit_81, n_size_81, n_parts_81, n_wanted_81, n_found_81, rfl, rfl, r_l7, rn_tried_81, rn_triedLeave_81, rn_numbers_81, rn_weights_81, rn_weightsAhead_81, rn_grains_81, rn_placeFrom_81, rn_first_81, rn_barred_81, rn_limit_81, rn_size_81, rn_parts_81, rn_wanted_81, rn_found_81, h⟩ dX7_table_95
def wp_X7_table (Q : Int → (Int → Int) → (Int → Int) → (Int → Int) → (Int → Int) → (Int → Int) → (Int → Int) → (Int → Int) → (Int → Int) → Int → Int → Int → Int → Int → Int → Prop) (n_tried : Int → Int) (n_triedLeave : Int → Int) (n_numbers : Int → Int) (n_weights : Int → Int) (n_weightsAhead : Int → Int) (n_grains : Int → Int) (n_placeFrom : Int → Int) (n_first : Int → Int) (n_barred : Int) (n_limit : Int) (n_size : Int) (n_parts : Int) (n_wanted : Int) (n_found : Int) (l1 : Int) (l2 : Int) (l3 : Int) (l4 : Int) : Prop := ((l1 < 2 → wp_X7_table_43 Q n_tried n_triedLeave n_numbers n_weights n_weightsAhead n_grains n_placeFrom n_first n_barred n_limit n_size n_parts n_wanted n_found) ∧
  (¬ (l1 < 2) → ((60 < l1 → wp_X7_table_43 Q n_tried n_triedLeave n_numbers n_weights n_weightsAhead n_grains n_placeFrom n_first n_barred n_limit n_size n_parts n_wanted n_found) ∧
  (¬ (60 < l1) → ((l2 < 2 → wp_X7_table_43 Q n_tried n_triedLeave n_numbers n_weights n_weightsAhead n_grains n_placeFrom n_first n_barred n_limit n_size n_parts n_wanted n_found) ∧
  (¬ (l2 < 2) → ((40 < l2 → wp_X7_table_43 Q n_tried n_triedLeave n_numbers n_weights n_weightsAhead n_grains n_placeFrom n_first n_barred n_limit n_size n_parts n_wanted n_found) ∧
  (¬ (40 < l2) → ((l3 < 1 → wp_X7_table_43 Q n_tried n_triedLeave n_numbers n_weights n_weightsAhead n_grains n_placeFrom n_first n_barred n_limit n_size n_parts n_wanted n_found) ∧
  (¬ (l3 < 1) → ((4 < l3 → wp_X7_table_43 Q n_tried n_triedLeave n_numbers n_weights n_weightsAhead n_grains n_placeFrom n_first n_barred n_limit n_size n_parts n_wanted n_found) ∧
  (¬ (4 < l3) → ((l4 < 0 → wp_X7_table_43 Q n_tried n_triedLeave n_numbers n_weights n_weightsAhead n_grains n_placeFrom n_first n_barred n_limit n_size n_parts n_wanted n_found) ∧
  (¬ (l4 < 0) → ((l4 < l1 → ((l4 ≤ 0 → (∃ n0 : Nat, wp_X7_table_69 Q n0 n_tried n_triedLeave n_numbers n_weights n_weightsAhead n_grains n_placeFrom n_first n_barred n_limit n_size n_parts n_wanted n_found l1 l2 l3 1 0 1)) ∧
  (¬ (l4 ≤ 0) → wp_X7_fewest (fun (x56 : Int) (n_tried_56 : Int → Int) (n_triedLeave_56 : Int → Int) (n_numbers_56 : Int → Int) (n_weights_56 : Int → Int) (n_weightsAhead_56 : Int → Int) (n_grains_56 : Int → Int) (n_placeFrom_56 : Int → Int) (n_first_56 : Int → Int) (n_barred_56 : Int) (n_limit_56 : Int) (n_size_56 : Int) (n_parts_56 : Int) (n_wanted_56 : Int) (n_found_56 : Int) => Q x56 n_tried_56 n_triedLeave_56 n_numbers_56 n_weights_56 n_weightsAhead_56 n_grains_56 n_placeFrom_56 n_first_56 n_barred_56 n_limit_56 n_size_56 n_parts_56 n_wanted_56 n_found_56) n_tried n_triedLeave n_numbers n_weights n_weightsAhead n_grains n_placeFrom n_first n_barred n_limit n_size n_parts n_wanted n_found l4 l1 l2 l3))) ∧
  (¬ (l4 < l1) → wp_X7_table_43 Q n_tried n_triedLeave n_numbers n_weights n_weightsAhead n_grains n_placeFrom n_first n_barred n_limit n_size n_parts n_wanted n_found))))))))))))))))
set_option maxHeartbeats 4000000 in
set_option maxRecDepth 100000 in
theorem c_X7_table (l : Launch) (D : va_G) (cI cJ : ClassId) (zt : Nat) (hX7 : Nat) (aX7_above : Nat) (aX7_below : Nat) (hX3 : Nat) (hX2 : Nat) (hX1 : Nat) (hX6 : Nat) (hX0 : Nat) (hX5 : Nat) (aX2_tried : Nat) (aX2_triedLeave : Nat) (aX2_numbers : Nat) (aX2_weights : Nat) (aX2_weightsAhead : Nat) (aX2_grains : Nat) (aX2_placeFrom : Nat) (aX2_first : Nat) (n_barred : Int) (n_limit : Int) (n_size : Int) (n_parts : Int) (n_wanted : Int) (n_found : Int) (n_tried : Int → Int) (n_triedLeave : Int → Int) (n_numbers : Int → Int) (n_weights : Int → Int) (n_weightsAhead : Int → Int) (n_grains : Int → Int) (n_placeFrom : Int → Int) (n_first : Int → Int) (l1 : Int) (l2 : Int) (l3 : Int) (l4 : Int) (Q : Int → (Int → Int) → (Int → Int) → (Int → Int) → (Int → Int) → (Int → Int) → (Int → Int) → (Int → Int) → (Int → Int) → Int → Int → Int → Int → Int → Int → Prop) (r_n_tried : rr32 n_tried) (r_n_triedLeave : rr64 n_triedLeave) (r_n_numbers : rr32 n_numbers) (r_n_weights : rr64 n_weights) (r_n_weightsAhead : rr64 n_weightsAhead) (r_n_grains : rr64 n_grains) (r_n_placeFrom : rr32 n_placeFrom) (r_n_first : rr64 n_first) (r_n_barred : r64 n_barred) (r_n_limit : r32 n_limit) (r_n_size : r32 n_size) (r_n_parts : r64 n_parts) (r_n_wanted : r64 n_wanted) (r_n_found : r32 n_found) (r_l1 : r32 l1) (r_l2 : r32 l2) (r_l3 : r32 l3) (r_l4 : r32 l4) (h : wp_X7_table Q n_tried n_triedLeave n_numbers n_weights n_weightsAhead n_grains n_placeFrom n_first n_barred n_limit n_size n_parts n_wanted n_found l1 l2 l3 l4) : Ct l D cI cJ zt yX7_table cX7_table 9 (some .int) 15 0 0 [.ref hX7, .int (i32 l1), .int (i32 l2), .int (i32 l3), .int (i32 l4)] [(hX7, .inr (6, [.ref aX7_above, .ref aX7_below, .ref hX3, .ref hX2, .ref hX1, .ref hX6, .ref hX0, .ref hX5])), (hX2, .inr (2, [.ref aX2_tried, .ref aX2_triedLeave, .ref aX2_numbers, .ref aX2_weights, .ref aX2_weightsAhead, .ref aX2_grains, .ref aX2_placeFrom, .ref aX2_first, .long (i64 n_barred), .int (i32 n_limit), .int (i32 n_size), .long (i64 n_parts), .long (i64 n_wanted), .int (i32 n_found)])), (aX2_tried, aI cI 5 n_tried), (aX2_triedLeave, aL cJ 5 n_triedLeave), (aX2_numbers, aI cI 60 n_numbers), (aX2_weights, aL cJ 60 n_weights), (aX2_weightsAhead, aL cJ 61 n_weightsAhead), (aX2_grains, aL cJ 61 n_grains), (aX2_placeFrom, aI cI 61 n_placeFrom), (aX2_first, aL cJ 1 n_first)] (po_X7_table cI cJ hX7 aX7_above aX7_below hX3 hX2 hX1 hX6 hX0 hX5 aX2_tried aX2_triedLeave aX2_numbers aX2_weights aX2_weightsAhead aX2_grains aX2_placeFrom aX2_first Q) := by
  refine ct_of (by decide +kernel) (Nat.le_of_ble_eq_true rfl) (fun X hl hDD hcI hcJ hzt hR hF hnm g => ?_)
  subst hl; subst hDD; subst hcI; subst hcJ; subst hzt
  show Wat X 0 0 0 [(0, .ref hX7), (1, .int (i32 l1)), (2, .int (i32 l2)), (3, .int (i32 l3)), (4, .int (i32 l4))] [] [(hX7, .inr (6, [.ref aX7_above, .ref aX7_below, .ref hX3, .ref hX2, .ref hX1, .ref hX6, .ref hX0, .ref hX5])), (hX2, .inr (2, [.ref aX2_tried, .ref aX2_triedLeave, .ref aX2_numbers, .ref aX2_weights, .ref aX2_weightsAhead, .ref aX2_grains, .ref aX2_placeFrom, .ref aX2_first, .long (i64 n_barred), .int (i32 n_limit), .int (i32 n_size), .long (i64 n_parts), .long (i64 n_wanted), .int (i32 n_found)])), (aX2_tried, aI X.cI 5 n_tried), (aX2_triedLeave, aL X.cJ 5 n_triedLeave), (aX2_numbers, aI X.cI 60 n_numbers), (aX2_weights, aL X.cJ 60 n_weights), (aX2_weightsAhead, aL X.cJ 61 n_weightsAhead), (aX2_grains, aL X.cJ 61 n_grains), (aX2_placeFrom, aI X.cI 61 n_placeFrom), (aX2_first, aL X.cJ 1 n_first)]
  replace g : Gd X cX7_table RX7 (some .int) 9 := g
  rw [wp_X7_table] at h
  refine q_iload_n g 1 1 rfl dX7_table_0 ?_
  refine q_iconst g (2) dX7_table_1 ?_
  refine q_icmp_lt g (41) 43 r_l1 (r32_lit _ (by decide)) (by decide) dX7_table_2 (fun b2 => ?_) (fun b2 => ?_)
  · replace h := h.1 b2
    refine q_lv (lv' := []) [] rfl ?_
    exact s_X7_table_43 g hR hX7 aX7_above aX7_below hX3 hX2 hX1 hX6 hX0 hX5 aX2_tried aX2_triedLeave aX2_numbers aX2_weights aX2_weightsAhead aX2_grains aX2_placeFrom aX2_first Q hF n_tried n_triedLeave n_numbers n_weights n_weightsAhead n_grains n_placeFrom n_first n_barred n_limit n_size n_parts n_wanted n_found r_n_tried r_n_triedLeave r_n_numbers r_n_weights r_n_weightsAhead r_n_grains r_n_placeFrom r_n_first r_n_barred r_n_limit r_n_size r_n_parts r_n_wanted r_n_found h
  replace h := h.2 b2
  refine q_iload_n g 1 1 rfl dX7_table_5 ?_
  refine q_bipush g (60) (by decide) (by decide) dX7_table_6 ?_
  refine q_icmp_gt g (35) 43 r_l1 (r32_lit _ (by decide)) (by decide) dX7_table_8 (fun b8 => ?_) (fun b8 => ?_)
  · replace h := h.1 b8
    refine q_lv (lv' := []) [] rfl ?_
    exact s_X7_table_43 g hR hX7 aX7_above aX7_below hX3 hX2 hX1 hX6 hX0 hX5 aX2_tried aX2_triedLeave aX2_numbers aX2_weights aX2_weightsAhead aX2_grains aX2_placeFrom aX2_first Q hF n_tried n_triedLeave n_numbers n_weights n_weightsAhead n_grains n_placeFrom n_first n_barred n_limit n_size n_parts n_wanted n_found r_n_tried r_n_triedLeave r_n_numbers r_n_weights r_n_weightsAhead r_n_grains r_n_placeFrom r_n_first r_n_barred r_n_limit r_n_size r_n_parts r_n_wanted r_n_found h
  replace h := h.2 b8
  refine q_iload_n g 2 2 rfl dX7_table_11 ?_
  refine q_iconst g (2) dX7_table_12 ?_
  refine q_icmp_lt g (30) 43 r_l2 (r32_lit _ (by decide)) (by decide) dX7_table_13 (fun b13 => ?_) (fun b13 => ?_)
  · replace h := h.1 b13
    refine q_lv (lv' := []) [] rfl ?_
    exact s_X7_table_43 g hR hX7 aX7_above aX7_below hX3 hX2 hX1 hX6 hX0 hX5 aX2_tried aX2_triedLeave aX2_numbers aX2_weights aX2_weightsAhead aX2_grains aX2_placeFrom aX2_first Q hF n_tried n_triedLeave n_numbers n_weights n_weightsAhead n_grains n_placeFrom n_first n_barred n_limit n_size n_parts n_wanted n_found r_n_tried r_n_triedLeave r_n_numbers r_n_weights r_n_weightsAhead r_n_grains r_n_placeFrom r_n_first r_n_barred r_n_limit r_n_size r_n_parts r_n_wanted r_n_found h
  replace h := h.2 b13
  refine q_iload_n g 2 2 rfl dX7_table_16 ?_
  refine q_bipush g (40) (by decide) (by decide) dX7_table_17 ?_
  refine q_icmp_gt g (24) 43 r_l2 (r32_lit _ (by decide)) (by decide) dX7_table_19 (fun b19 => ?_) (fun b19 => ?_)
  · replace h := h.1 b19
    refine q_lv (lv' := []) [] rfl ?_
    exact s_X7_table_43 g hR hX7 aX7_above aX7_below hX3 hX2 hX1 hX6 hX0 hX5 aX2_tried aX2_triedLeave aX2_numbers aX2_weights aX2_weightsAhead aX2_grains aX2_placeFrom aX2_first Q hF n_tried n_triedLeave n_numbers n_weights n_weightsAhead n_grains n_placeFrom n_first n_barred n_limit n_size n_parts n_wanted n_found r_n_tried r_n_triedLeave r_n_numbers r_n_weights r_n_weightsAhead r_n_grains r_n_placeFrom r_n_first r_n_barred r_n_limit r_n_size r_n_parts r_n_wanted r_n_found h
  replace h := h.2 b19
  refine q_iload_n g 3 3 rfl dX7_table_22 ?_
  refine q_iconst g (1) dX7_table_23 ?_
  refine q_icmp_lt g (19) 43 r_l3 (r32_lit _ (by decide)) (by decide) dX7_table_24 (fun b24 => ?_) (fun b24 => ?_)
  · replace h := h.1 b24
    refine q_lv (lv' := []) [] rfl ?_
    exact s_X7_table_43 g hR hX7 aX7_above aX7_below hX3 hX2 hX1 hX6 hX0 hX5 aX2_tried aX2_triedLeave aX2_numbers aX2_weights aX2_weightsAhead aX2_grains aX2_placeFrom aX2_first Q hF n_tried n_triedLeave n_numbers n_weights n_weightsAhead n_grains n_placeFrom n_first n_barred n_limit n_size n_parts n_wanted n_found r_n_tried r_n_triedLeave r_n_numbers r_n_weights r_n_weightsAhead r_n_grains r_n_placeFrom r_n_first r_n_barred r_n_limit r_n_size r_n_parts r_n_wanted r_n_found h
  replace h := h.2 b24
  refine q_iload_n g 3 3 rfl dX7_table_27 ?_
  refine q_iconst g (4) dX7_table_28 ?_
  refine q_icmp_gt g (14) 43 r_l3 (r32_lit _ (by decide)) (by decide) dX7_table_29 (fun b29 => ?_) (fun b29 => ?_)
  · replace h := h.1 b29
    refine q_lv (lv' := []) [] rfl ?_
    exact s_X7_table_43 g hR hX7 aX7_above aX7_below hX3 hX2 hX1 hX6 hX0 hX5 aX2_tried aX2_triedLeave aX2_numbers aX2_weights aX2_weightsAhead aX2_grains aX2_placeFrom aX2_first Q hF n_tried n_triedLeave n_numbers n_weights n_weightsAhead n_grains n_placeFrom n_first n_barred n_limit n_size n_parts n_wanted n_found r_n_tried r_n_triedLeave r_n_numbers r_n_weights r_n_weightsAhead r_n_grains r_n_placeFrom r_n_first r_n_barred r_n_limit r_n_size r_n_parts r_n_wanted r_n_found h
  replace h := h.2 b29
  refine q_iload g 4 4 rfl dX7_table_32 ?_
  refine q_if_lt g (9) 43 r_l4 (by decide) dX7_table_34 (fun b34 => ?_) (fun b34 => ?_)
  · replace h := h.1 b34
    refine q_lv (lv' := []) [] rfl ?_
    exact s_X7_table_43 g hR hX7 aX7_above aX7_below hX3 hX2 hX1 hX6 hX0 hX5 aX2_tried aX2_triedLeave aX2_numbers aX2_weights aX2_weightsAhead aX2_grains aX2_placeFrom aX2_first Q hF n_tried n_triedLeave n_numbers n_weights n_weightsAhead n_grains n_placeFrom n_first n_barred n_limit n_size n_parts n_wanted n_found r_n_tried r_n_triedLeave r_n_numbers r_n_weights r_n_weightsAhead r_n_grains r_n_placeFrom r_n_first r_n_barred r_n_limit r_n_size r_n_parts r_n_wanted r_n_found h
  replace h := h.2 b34
  refine q_iload g 4 4 rfl dX7_table_37 ?_
  refine q_iload_n g 1 1 rfl dX7_table_39 ?_
  refine q_icmp_lt g (5) 45 r_l4 r_l1 (by decide) dX7_table_40 (fun b40 => ?_) (fun b40 => ?_)
  · replace h := h.1 b40
    refine q_iload g 4 4 rfl dX7_table_45 ?_
    refine q_if_le g (13) 60 r_l4 (by decide) dX7_table_47 (fun b47 => ?_) (fun b47 => ?_)
    · replace h := h.1 b47
      refine q_iconst g (1) dX7_table_60 ?_
      refine q_istore (lv' := [(5, .int (i32 1)), (0, .ref hX7), (1, .int (i32 l1)), (2, .int (i32 l2)), (3, .int (i32 l3)), (4, .int (i32 l4))]) g 5   (by decide) rfl dX7_table_61 ?_
      refine q_iconst g (0) dX7_table_63 ?_
      refine q_istore (lv' := [(6, .int (i32 0)), (5, .int (i32 1)), (0, .ref hX7), (1, .int (i32 l1)), (2, .int (i32 l2)), (3, .int (i32 l3)), (4, .int (i32 l4))]) g 6   (by decide) rfl dX7_table_64 ?_
      refine q_iconst g (1) dX7_table_66 ?_
      refine q_istore (lv' := [(7, .int (i32 1)), (6, .int (i32 0)), (5, .int (i32 1)), (0, .ref hX7), (1, .int (i32 l1)), (2, .int (i32 l2)), (3, .int (i32 l3)), (4, .int (i32 l4))]) g 7   (by decide) rfl dX7_table_67 ?_
      refine q_lv (lv' := [(0, .ref hX7), (1, .int (i32 l1)), (2, .int (i32 l2)), (3, .int (i32 l3)), (5, .int (i32 1)), (6, .int (i32 0)), (7, .int (i32 1))]) [3, 4, 5, 6, 2, 1, 0] rfl ?_
      obtain ⟨n0, h⟩ := h
      exact s_X7_table_69 g hR hX7 aX7_above aX7_below hX3 hX2 hX1 hX6 hX0 hX5 aX2_tried aX2_triedLeave aX2_numbers aX2_weights aX2_weightsAhead aX2_grains aX2_placeFrom aX2_first Q hF n0 n_tried n_triedLeave n_numbers n_weights n_weightsAhead n_grains n_placeFrom n_first n_barred n_limit n_size n_parts n_wanted n_found l1 l2 l3 1 0 1 r_n_tried r_n_triedLeave r_n_numbers r_n_weights r_n_weightsAhead r_n_grains r_n_placeFrom r_n_first r_n_barred r_n_limit r_n_size r_n_parts r_n_wanted r_n_found r_l1 r_l2 r_l3 (r32_lit _ (by decide)) (r32_lit _ (by decide)) (r32_lit _ (by decide)) h
    replace h := h.2 b47
    refine q_aload_n g 0 0 rfl dX7_table_50 ?_
    refine q_iload g 4 4 rfl dX7_table_51 ?_
    refine q_iload_n g 1 1 rfl dX7_table_53 ?_
    refine q_iload_n g 2 2 rfl dX7_table_54 ?_
    refine q_iload_n g 3 3 rfl dX7_table_55 ?_
    refine q_callV (lev := 14) (mc := 0) (ms := 0) g 172 (c_X7_fewest X.l X.D X.cI X.cJ X.zt hX7 aX7_above aX7_below hX3 hX2 hX1 hX6 hX0 hX5 aX2_tried aX2_triedLeave aX2_numbers aX2_weights aX2_weightsAhead aX2_grains aX2_placeFrom aX2_first n_barred n_limit n_size n_parts n_wanted n_found n_tried n_triedLeave n_numbers n_weights n_weightsAhead n_grains n_placeFrom n_first l4 l1 l2 l3 _ r_n_tried r_n_triedLeave r_n_numbers r_n_weights r_n_weightsAhead r_n_grains r_n_placeFrom r_n_first r_n_barred r_n_limit r_n_size r_n_parts r_n_wanted r_n_found r_l4 r_l1 r_l2 r_l3 h) (wr := []) [0, 1, 2, 3, 4, 5, 6, 7, 8, 9] [] rfl rfl rfl (by decide) (by decide) (by decide) (ci := 6) rfl rfl rfl wM_X7_172 wI_X7_fewest wS_X7_fewest wZ_X7 wC_X7_fewest 4 rfl (by decide +kernel) (by rw [hR]; exact ⟨by show 14 + 1 ≤ 15; omega, by show 8 + (6 + 11) + 100 * 14 ≤ 100 * 15; omega⟩) (by rw [hR]; exact ⟨Nat.le_refl _, Nat.le_refl _⟩) (Nat.le_of_ble_eq_true rfl) rfl dX7_table_56 (fun rv w1 hq => ?_)
    obtain ⟨x56, n_tried_56, n_triedLeave_56, n_numbers_56, n_weights_56, n_weightsAhead_56, n_grains_56, n_placeFrom_56, n_first_56, n_barred_56, n_limit_56, n_size_56, n_parts_56, n_wanted_56, n_found_56, rfl, rfl, rx56, rn_tried_56, rn_triedLeave_56, rn_numbers_56, rn_weights_56, rn_weightsAhead_56, rn_grains_56, rn_placeFrom_56, rn_first_56, rn_barred_56, rn_limit_56, rn_size_56, rn_parts_56, rn_wanted_56, rn_found_56, h⟩ := hq
    show Wat X 0 0 59 [(0, .ref hX7), (1, .int (i32 l1)), (2, .int (i32 l2)), (3, .int (i32 l3)), (4, .int (i32 l4))] [.int (i32 x56)] [(hX7, .inr (6, [.ref aX7_above, .ref aX7_below, .ref hX3, .ref hX2, .ref hX1, .ref hX6, .ref hX0, .ref hX5])), (hX2, .inr (2, [.ref aX2_tried, .ref aX2_triedLeave, .ref aX2_numbers, .ref aX2_weights, .ref aX2_weightsAhead, .ref aX2_grains, .ref aX2_placeFrom, .ref aX2_first, .long (i64 n_barred_56), .int (i32 n_limit_56), .int (i32 n_size_56), .long (i64 n_parts_56), .long (i64 n_wanted_56), .int (i32 n_found_56)])), (aX2_tried, aI X.cI 5 n_tried_56), (aX2_triedLeave, aL X.cJ 5 n_triedLeave_56), (aX2_numbers, aI X.cI 60 n_numbers_56), (aX2_weights, aL X.cJ 60 n_weights_56), (aX2_weightsAhead, aL X.cJ 61 n_weightsAhead_56), (aX2_grains, aL X.cJ 61 n_grains_56), (aX2_placeFrom, aI X.cI 61 n_placeFrom_56), (aX2_first, aL X.cJ 1 n_first_56)]
    exact q_iret g hF ⟨x56, n_tried_56, n_triedLeave_56, n_numbers_56, n_weights_56, n_weightsAhead_56, n_grains_56, n_placeFrom_56, n_first_56, n_barred_56, n_limit_56, n_size_56, n_parts_56, n_wanted_56, n_found_56, rfl, rfl, rx56, rn_tried_56, rn_triedLeave_56, rn_numbers_56, rn_weights_56, rn_weightsAhead_56, rn_grains_56, rn_placeFrom_56, rn_first_56, rn_barred_56, rn_limit_56, rn_size_56, rn_parts_56, rn_wanted_56, rn_found_56, h⟩ dX7_table_59
  replace h := h.2 b40
  refine q_lv (lv' := []) [] rfl ?_
  exact s_X7_table_43 g hR hX7 aX7_above aX7_below hX3 hX2 hX1 hX6 hX0 hX5 aX2_tried aX2_triedLeave aX2_numbers aX2_weights aX2_weightsAhead aX2_grains aX2_placeFrom aX2_first Q hF n_tried n_triedLeave n_numbers n_weights n_weightsAhead n_grains n_placeFrom n_first n_barred n_limit n_size n_parts n_wanted n_found r_n_tried r_n_triedLeave r_n_numbers r_n_weights r_n_weightsAhead r_n_grains r_n_placeFrom r_n_first r_n_barred r_n_limit r_n_size r_n_parts r_n_wanted r_n_found h
theorem dX7_threes_0 : decode cX7_threes 0 = .ok (.iload_n 1, 1) := by decide +kernel
theorem dX7_threes_1 : decode cX7_threes 1 = .ok (.invokestatic 64, 3) := by decide +kernel
theorem dX7_threes_4 : decode cX7_threes 4 = .ok (.ifCond .ne 5, 3) := by decide +kernel
theorem dX7_threes_7 : decode cX7_threes 7 = .ok (.iconst (-1), 1) := by decide +kernel
theorem dX7_threes_8 : decode cX7_threes 8 = .ok (.ireturn, 1) := by decide +kernel
theorem dX7_threes_9 : decode cX7_threes 9 = .ok (.aload_n 0, 1) := by decide +kernel
theorem dX7_threes_10 : decode cX7_threes 10 = .ok (.iload_n 1, 1) := by decide +kernel
theorem dX7_threes_11 : decode cX7_threes 11 = .ok (.invokevirtual 91, 3) := by decide +kernel
theorem dX7_threes_14 : decode cX7_threes 14 = .ok (.ifCond .eq 15, 3) := by decide +kernel
theorem dX7_threes_17 : decode cX7_threes 17 = .ok (.aload_n 0, 1) := by decide +kernel
theorem dX7_threes_18 : decode cX7_threes 18 = .ok (.getfield 13, 3) := by decide +kernel
theorem dX7_threes_21 : decode cX7_threes 21 = .ok (.iload_n 1, 1) := by decide +kernel
theorem dX7_threes_22 : decode cX7_threes 22 = .ok (.iaload, 1) := by decide +kernel
theorem dX7_threes_23 : decode cX7_threes 23 = .ok (.sipush 300, 3) := by decide +kernel
theorem dX7_threes_26 : decode cX7_threes 26 = .ok (.if_icmp .le 6, 3) := by decide +kernel
theorem dX7_threes_29 : decode cX7_threes 29 = .ok (.bipush (-2), 2) := by decide +kernel
theorem dX7_threes_31 : decode cX7_threes 31 = .ok (.ireturn, 1) := by decide +kernel
theorem dX7_threes_32 : decode cX7_threes 32 = .ok (.aload_n 0, 1) := by decide +kernel
theorem dX7_threes_33 : decode cX7_threes 33 = .ok (.getfield 54, 3) := by decide +kernel
theorem dX7_threes_36 : decode cX7_threes 36 = .ok (.aload_n 0, 1) := by decide +kernel
theorem dX7_threes_37 : decode cX7_threes 37 = .ok (.getfield 9, 3) := by decide +kernel
theorem dX7_threes_40 : decode cX7_threes 40 = .ok (.iload_n 1, 1) := by decide +kernel
theorem dX7_threes_41 : decode cX7_threes 41 = .ok (.iaload, 1) := by decide +kernel
theorem dX7_threes_42 : decode cX7_threes 42 = .ok (.aload_n 0, 1) := by decide +kernel
theorem dX7_threes_43 : decode cX7_threes 43 = .ok (.getfield 13, 3) := by decide +kernel
theorem dX7_threes_46 : decode cX7_threes 46 = .ok (.iload_n 1, 1) := by decide +kernel
theorem dX7_threes_47 : decode cX7_threes 47 = .ok (.iaload, 1) := by decide +kernel
theorem dX7_threes_48 : decode cX7_threes 48 = .ok (.invokevirtual 169, 3) := by decide +kernel
theorem dX7_threes_51 : decode cX7_threes 51 = .ok (.ireturn, 1) := by decide +kernel
abbrev po_X7_threes (cI cJ : ClassId) (hX7 : Nat) (aX7_above : Nat) (aX7_below : Nat) (hX3 : Nat) (hX2 : Nat) (hX1 : Nat) (hX6 : Nat) (hX0 : Nat) (hX5 : Nat) (aX5_lesser : Nat) (aX5_divisors : Nat) (t_size : Int) (t_listedP : Int) (t_listedQ : Int) (s_above : Int → Int) (s_below : Int → Int) (Q : Int → (Int → Int) → Int → Prop) : Option Value → va_W → Prop := fun rv w1 => ∃ (r0 : Int) (t_divisors : Int → Int) (t_divisorsSize : Int), rv = some (.int (i32 r0)) ∧ w1 = [(hX7, .inr (6, [.ref aX7_above, .ref aX7_below, .ref hX3, .ref hX2, .ref hX1, .ref hX6, .ref hX0, .ref hX5])), (hX5, .inr (4, [.ref aX5_lesser, .ref aX5_divisors, .int (i32 t_divisorsSize), .int (i32 t_size), .int (i32 t_listedP), .int (i32 t_listedQ)])), (aX7_above, aI cI 8 s_above), (aX7_below, aI cI 8 s_below), (aX5_divisors, aI cI 1100 t_divisors)] ∧ r32 r0 ∧ rr32 t_divisors ∧ r32 t_divisorsSize ∧ Q r0 t_divisors t_divisorsSize
def wp_X7_threes_29 (Q : Int → (Int → Int) → Int → Prop) (s_above : Int → Int) (s_below : Int → Int) (t_divisors : Int → Int) (t_divisorsSize : Int) : Prop := Q (-2) t_divisors t_divisorsSize
set_option maxHeartbeats 4000000 in
set_option maxRecDepth 100000 in
theorem s_X7_threes_29 {X : Cx} (g : Gd X cX7_threes RX7 (some .int) 2) (hR : X.R = rmL 6 0 0) (hX7 : Nat) (aX7_above : Nat) (aX7_below : Nat) (hX3 : Nat) (hX2 : Nat) (hX1 : Nat) (hX6 : Nat) (hX0 : Nat) (hX5 : Nat) (aX5_lesser : Nat) (aX5_divisors : Nat) (t_size : Int) (t_listedP : Int) (t_listedQ : Int) (s_above : Int → Int) (s_below : Int → Int) (r_s_above : rr32 s_above) (r_s_below : rr32 s_below) (Q : Int → (Int → Int) → Int → Prop) (hF : FQ X 0 0 (po_X7_threes X.cI X.cJ hX7 aX7_above aX7_below hX3 hX2 hX1 hX6 hX0 hX5 aX5_lesser aX5_divisors t_size t_listedP t_listedQ s_above s_below Q)) : ∀ (t_divisors : Int → Int) (t_divisorsSize : Int), rr32 t_divisors → r32 t_divisorsSize → wp_X7_threes_29 Q s_above s_below t_divisors t_divisorsSize → Wat X 0 0 29 [] [] [(hX7, .inr (6, [.ref aX7_above, .ref aX7_below, .ref hX3, .ref hX2, .ref hX1, .ref hX6, .ref hX0, .ref hX5])), (hX5, .inr (4, [.ref aX5_lesser, .ref aX5_divisors, .int (i32 t_divisorsSize), .int (i32 t_size), .int (i32 t_listedP), .int (i32 t_listedQ)])), (aX7_above, aI X.cI 8 s_above), (aX7_below, aI X.cI 8 s_below), (aX5_divisors, aI X.cI 1100 t_divisors)] := by
  intro t_divisors t_divisorsSize r_t_divisors r_t_divisorsSize h
  rw [wp_X7_threes_29] at h
  refine q_bipush g (-2) (by decide) (by decide) dX7_threes_29 ?_
  exact q_iret g hF ⟨(-2), t_divisors, t_divisorsSize, rfl, rfl, (r32_lit _ (by decide)), r_t_divisors, r_t_divisorsSize, h⟩ dX7_threes_31
def wp_X7_threes (Q : Int → (Int → Int) → Int → Prop) (s_above : Int → Int) (s_below : Int → Int) (t_divisors : Int → Int) (t_divisorsSize : Int) (l1 : Int) : Prop := wp_X7_isRegister (fun (x1 : Int) => ((¬ x1 = 0 → wp_X7_isProper (fun (x11 : Int) => ((x11 = 0 → wp_X7_threes_29 Q s_above s_below t_divisors t_divisorsSize) ∧
  (¬ (x11 = 0) → (0 ≤ l1 ∧ l1 < 8 ∧ (((s_below l1) ≤ 300 → (0 ≤ l1 ∧ l1 < 8 ∧ 0 ≤ l1 ∧ l1 < 8 ∧ wp_X5_countThrees (fun (x48 : Int) (t_divisors_48 : Int → Int) (t_divisorsSize_48 : Int) => Q x48 t_divisors_48 t_divisorsSize_48) t_divisors t_divisorsSize (s_above l1) (s_below l1))) ∧
  (¬ ((s_below l1) ≤ 300) → wp_X7_threes_29 Q s_above s_below t_divisors t_divisorsSize)))))) s_above s_below l1) ∧
  (x1 = 0 → Q (-1) t_divisors t_divisorsSize))) l1
set_option maxHeartbeats 4000000 in
set_option maxRecDepth 100000 in
theorem c_X7_threes (l : Launch) (D : va_G) (cI cJ : ClassId) (zt : Nat) (hX7 : Nat) (aX7_above : Nat) (aX7_below : Nat) (hX3 : Nat) (hX2 : Nat) (hX1 : Nat) (hX6 : Nat) (hX0 : Nat) (hX5 : Nat) (aX5_lesser : Nat) (aX5_divisors : Nat) (t_divisorsSize : Int) (t_size : Int) (t_listedP : Int) (t_listedQ : Int) (s_above : Int → Int) (s_below : Int → Int) (t_divisors : Int → Int) (l1 : Int) (Q : Int → (Int → Int) → Int → Prop) (r_s_above : rr32 s_above) (r_s_below : rr32 s_below) (r_t_divisors : rr32 t_divisors) (r_t_divisorsSize : r32 t_divisorsSize) (r_l1 : r32 l1) (h : wp_X7_threes Q s_above s_below t_divisors t_divisorsSize l1) : Ct l D cI cJ zt yX7_threes cX7_threes 2 (some .int) 6 0 0 [.ref hX7, .int (i32 l1)] [(hX7, .inr (6, [.ref aX7_above, .ref aX7_below, .ref hX3, .ref hX2, .ref hX1, .ref hX6, .ref hX0, .ref hX5])), (hX5, .inr (4, [.ref aX5_lesser, .ref aX5_divisors, .int (i32 t_divisorsSize), .int (i32 t_size), .int (i32 t_listedP), .int (i32 t_listedQ)])), (aX7_above, aI cI 8 s_above), (aX7_below, aI cI 8 s_below), (aX5_divisors, aI cI 1100 t_divisors)] (po_X7_threes cI cJ hX7 aX7_above aX7_below hX3 hX2 hX1 hX6 hX0 hX5 aX5_lesser aX5_divisors t_size t_listedP t_listedQ s_above s_below Q) := by
  refine ct_of (by decide +kernel) (Nat.le_of_ble_eq_true rfl) (fun X hl hDD hcI hcJ hzt hR hF hnm g => ?_)
  subst hl; subst hDD; subst hcI; subst hcJ; subst hzt
  show Wat X 0 0 0 [(0, .ref hX7), (1, .int (i32 l1))] [] [(hX7, .inr (6, [.ref aX7_above, .ref aX7_below, .ref hX3, .ref hX2, .ref hX1, .ref hX6, .ref hX0, .ref hX5])), (hX5, .inr (4, [.ref aX5_lesser, .ref aX5_divisors, .int (i32 t_divisorsSize), .int (i32 t_size), .int (i32 t_listedP), .int (i32 t_listedQ)])), (aX7_above, aI X.cI 8 s_above), (aX7_below, aI X.cI 8 s_below), (aX5_divisors, aI X.cI 1100 t_divisors)]
  replace g : Gd X cX7_threes RX7 (some .int) 2 := g
  rw [wp_X7_threes] at h
  refine q_iload_n g 1 1 rfl dX7_threes_0 ?_
  refine q_callS (lev := 1) (mc := 0) (ms := 0) (As := [.int (i32 l1)]) g 64 (c_X7_isRegister X.l X.D X.cI X.cJ X.zt l1 _ r_l1 h) (wr := [(hX7, .inr (6, [.ref aX7_above, .ref aX7_below, .ref hX3, .ref hX2, .ref hX1, .ref hX6, .ref hX0, .ref hX5])), (hX5, .inr (4, [.ref aX5_lesser, .ref aX5_divisors, .int (i32 t_divisorsSize), .int (i32 t_size), .int (i32 t_listedP), .int (i32 t_listedQ)])), (aX7_above, aI X.cI 8 s_above), (aX7_below, aI X.cI 8 s_below), (aX5_divisors, aI X.cI 1100 t_divisors)]) [] [0, 1, 2, 3, 4] rfl rfl rfl (by decide) (by decide) (by decide) wM_X7_64 wT_X7_isRegister wZ_X7 wC_X7_isRegister 1 rfl (by decide +kernel) (by rw [hR]; exact ⟨by show 1 + 1 ≤ 6; omega, by show 8 + (1 + 11) + 100 * 1 ≤ 100 * 6; omega⟩) (by rw [hR]; exact ⟨Nat.le_refl _, Nat.le_refl _⟩) (Nat.le_of_ble_eq_true rfl) rfl dX7_threes_1 (fun rv w1 hq => ?_)
  obtain ⟨x1, rfl, rfl, rx1, h⟩ := hq
  show Wat X 0 0 4 [(0, .ref hX7), (1, .int (i32 l1))] [.int (i32 x1)] [(hX7, .inr (6, [.ref aX7_above, .ref aX7_below, .ref hX3, .ref hX2, .ref hX1, .ref hX6, .ref hX0, .ref hX5])), (hX5, .inr (4, [.ref aX5_lesser, .ref aX5_divisors, .int (i32 t_divisorsSize), .int (i32 t_size), .int (i32 t_listedP), .int (i32 t_listedQ)])), (aX7_above, aI X.cI 8 s_above), (aX7_below, aI X.cI 8 s_below), (aX5_divisors, aI X.cI 1100 t_divisors)]
  refine q_if_ne g (5) 9 rx1 (by decide) dX7_threes_4 (fun b4 => ?_) (fun b4 => ?_)
  · replace h := h.1 b4
    refine q_aload_n g 0 0 rfl dX7_threes_9 ?_
    refine q_iload_n g 1 1 rfl dX7_threes_10 ?_
    refine q_callV (lev := 2) (mc := 0) (ms := 0) g 91 (c_X7_isProper X.l X.D X.cI X.cJ X.zt hX7 aX7_above aX7_below hX3 hX2 hX1 hX6 hX0 hX5 s_above s_below l1 _ r_s_above r_s_below r_l1 h) (wr := [(hX5, .inr (4, [.ref aX5_lesser, .ref aX5_divisors, .int (i32 t_divisorsSize), .int (i32 t_size), .int (i32 t_listedP), .int (i32 t_listedQ)])), (aX5_divisors, aI X.cI 1100 t_divisors)]) [0, 2, 3] [1, 4] rfl rfl rfl (by decide) (by decide) (by decide) (ci := 6) rfl rfl rfl wM_X7_91 wI_X7_isProper wS_X7_isProper wZ_X7 wC_X7_isProper 1 rfl (by decide +kernel) (by rw [hR]; exact ⟨by show 2 + 1 ≤ 6; omega, by show 8 + (2 + 11) + 100 * 2 ≤ 100 * 6; omega⟩) (by rw [hR]; exact ⟨Nat.le_refl _, Nat.le_refl _⟩) (Nat.le_of_ble_eq_true rfl) rfl dX7_threes_11 (fun rv w1 hq => ?_)
    obtain ⟨x11, rfl, rfl, rx11, h⟩ := hq
    refine q_ws (ws' := [(hX7, .inr (6, [.ref aX7_above, .ref aX7_below, .ref hX3, .ref hX2, .ref hX1, .ref hX6, .ref hX0, .ref hX5])), (hX5, .inr (4, [.ref aX5_lesser, .ref aX5_divisors, .int (i32 t_divisorsSize), .int (i32 t_size), .int (i32 t_listedP), .int (i32 t_listedQ)])), (aX7_above, aI X.cI 8 s_above), (aX7_below, aI X.cI 8 s_below), (aX5_divisors, aI X.cI 1100 t_divisors)]) [2, 0, 3, 4, 1] (by decide) rfl rfl ?_
    show Wat X 0 0 14 [(0, .ref hX7), (1, .int (i32 l1))] [.int (i32 x11)] [(hX7, .inr (6, [.ref aX7_above, .ref aX7_below, .ref hX3, .ref hX2, .ref hX1, .ref hX6, .ref hX0, .ref hX5])), (hX5, .inr (4, [.ref aX5_lesser, .ref aX5_divisors, .int (i32 t_divisorsSize), .int (i32 t_size), .int (i32 t_listedP), .int (i32 t_listedQ)])), (aX7_above, aI X.cI 8 s_above), (aX7_below, aI X.cI 8 s_below), (aX5_divisors, aI X.cI 1100 t_divisors)]
    refine q_if_eq g (15) 29 rx11 (by decide) dX7_threes_14 (fun b14 => ?_) (fun b14 => ?_)
    · replace h := h.1 b14
      refine q_lv (lv' := []) [] rfl ?_
      exact s_X7_threes_29 g hR hX7 aX7_above aX7_below hX3 hX2 hX1 hX6 hX0 hX5 aX5_lesser aX5_divisors t_size t_listedP t_listedQ s_above s_below r_s_above r_s_below Q hF t_divisors t_divisorsSize r_t_divisors r_t_divisorsSize h
    replace h := h.2 b14
    refine q_aload_n g 0 0 rfl dX7_threes_17 ?_
    refine q_get (C := RX7) (T := TX7) (N := 8) g 13 inX7 0 1 rfl rfl (by decide) wF_X7_13 rfl dX7_threes_18 ?_
    refine q_iload_n g 1 1 rfl dX7_threes_21 ?_
    obtain ⟨c22, h⟩ := h
    obtain ⟨e22, h⟩ := h
    refine q_iald g 3 rfl c22 e22 (by decide) dX7_threes_22 ?_
    refine q_sipush g (300) (by decide) (by decide) dX7_threes_23 ?_
    refine q_icmp_le g (6) 32 (r_s_below _) (r32_lit _ (by decide)) (by decide) dX7_threes_26 (fun b26 => ?_) (fun b26 => ?_)
    · replace h := h.1 b26
      refine q_aload_n g 0 0 rfl dX7_threes_32 ?_
      refine q_get (C := RX7) (T := TX7) (N := 8) g 54 inX7 0 7 rfl rfl (by decide) wF_X7_54 rfl dX7_threes_33 ?_
      refine q_aload_n g 0 0 rfl dX7_threes_36 ?_
      refine q_get (C := RX7) (T := TX7) (N := 8) g 9 inX7 0 0 rfl rfl (by decide) wF_X7_9 rfl dX7_threes_37 ?_
      refine q_iload_n g 1 1 rfl dX7_threes_40 ?_
      obtain ⟨c41, h⟩ := h
      obtain ⟨e41, h⟩ := h
      refine q_iald g 2 rfl c41 e41 (by decide) dX7_threes_41 ?_
      refine q_aload_n g 0 0 rfl dX7_threes_42 ?_
      refine q_get (C := RX7) (T := TX7) (N := 8) g 13 inX7 0 1 rfl rfl (by decide) wF_X7_13 rfl dX7_threes_43 ?_
      refine q_iload_n g 1 1 rfl dX7_threes_46 ?_
      obtain ⟨c47, h⟩ := h
      obtain ⟨e47, h⟩ := h
      refine q_iald g 3 rfl c47 e47 (by decide) dX7_threes_47 ?_
      refine q_callV (lev := 5) (mc := 0) (ms := 0) g 169 (c_X5_countThrees X.l X.D X.cI X.cJ X.zt hX5 aX5_lesser aX5_divisors t_divisorsSize t_size t_listedP t_listedQ t_divisors (s_above l1) (s_below l1) _ r_t_divisors r_t_divisorsSize (r_s_above _) (r_s_below _) h) (wr := [(hX7, .inr (6, [.ref aX7_above, .ref aX7_below, .ref hX3, .ref hX2, .ref hX1, .ref hX6, .ref hX0, .ref hX5])), (aX7_above, aI X.cI 8 s_above), (aX7_below, aI X.cI 8 s_below)]) [1, 4] [0, 2, 3] rfl rfl rfl (by decide) (by decide) (by decide) (ci := 4) rfl rfl rfl wM_X7_169 wI_X5_countThrees wS_X5_countThrees wZ_X5 wC_X5_countThrees 2 rfl (by decide +kernel) (by rw [hR]; exact ⟨by show 5 + 1 ≤ 6; omega, by show 8 + (7 + 11) + 100 * 5 ≤ 100 * 6; omega⟩) (by rw [hR]; exact ⟨Nat.le_refl _, Nat.le_refl _⟩) (Nat.le_of_ble_eq_true rfl) rfl dX7_threes_48 (fun rv w1 hq => ?_)
      obtain ⟨x48, t_divisors_48, t_divisorsSize_48, rfl, rfl, rx48, rt_divisors_48, rt_divisorsSize_48, h⟩ := hq
      refine q_ws (ws' := [(hX7, .inr (6, [.ref aX7_above, .ref aX7_below, .ref hX3, .ref hX2, .ref hX1, .ref hX6, .ref hX0, .ref hX5])), (hX5, .inr (4, [.ref aX5_lesser, .ref aX5_divisors, .int (i32 t_divisorsSize_48), .int (i32 t_size), .int (i32 t_listedP), .int (i32 t_listedQ)])), (aX7_above, aI X.cI 8 s_above), (aX7_below, aI X.cI 8 s_below), (aX5_divisors, aI X.cI 1100 t_divisors_48)]) [0, 3, 1, 2, 4] (by decide) rfl rfl ?_
      show Wat X 0 0 51 [(0, .ref hX7), (1, .int (i32 l1))] [.int (i32 x48)] [(hX7, .inr (6, [.ref aX7_above, .ref aX7_below, .ref hX3, .ref hX2, .ref hX1, .ref hX6, .ref hX0, .ref hX5])), (hX5, .inr (4, [.ref aX5_lesser, .ref aX5_divisors, .int (i32 t_divisorsSize_48), .int (i32 t_size), .int (i32 t_listedP), .int (i32 t_listedQ)])), (aX7_above, aI X.cI 8 s_above), (aX7_below, aI X.cI 8 s_below), (aX5_divisors, aI X.cI 1100 t_divisors_48)]
      exact q_iret g hF ⟨x48, t_divisors_48, t_divisorsSize_48, rfl, rfl, rx48, rt_divisors_48, rt_divisorsSize_48, h⟩ dX7_threes_51
    replace h := h.2 b26
    refine q_lv (lv' := []) [] rfl ?_
    exact s_X7_threes_29 g hR hX7 aX7_above aX7_below hX3 hX2 hX1 hX6 hX0 hX5 aX5_lesser aX5_divisors t_size t_listedP t_listedQ s_above s_below r_s_above r_s_below Q hF t_divisors t_divisorsSize r_t_divisors r_t_divisorsSize h
  replace h := h.2 b4
  refine q_iconst g (-1) dX7_threes_7 ?_
  exact q_iret g hF ⟨(-1), t_divisors, t_divisorsSize, rfl, rfl, (r32_lit _ (by decide)), r_t_divisors, r_t_divisorsSize, h⟩ dX7_threes_8
theorem dX7_told_0 : decode cX7_told 0 = .ok (.iload_n 1, 1) := by decide +kernel
theorem dX7_told_1 : decode cX7_told 1 = .ok (.invokestatic 64, 3) := by decide +kernel
theorem dX7_told_4 : decode cX7_told 4 = .ok (.ifCond .eq 10, 3) := by decide +kernel
theorem dX7_told_7 : decode cX7_told 7 = .ok (.iload_n 2, 1) := by decide +kernel
theorem dX7_told_8 : decode cX7_told 8 = .ok (.invokestatic 73, 3) := by decide +kernel
theorem dX7_told_11 : decode cX7_told 11 = .ok (.ifCond .ne 5, 3) := by decide +kernel
theorem dX7_told_14 : decode cX7_told 14 = .ok (.iconst (-1), 1) := by decide +kernel
theorem dX7_told_15 : decode cX7_told 15 = .ok (.ireturn, 1) := by decide +kernel
theorem dX7_told_16 : decode cX7_told 16 = .ok (.iload_n 2, 1) := by decide +kernel
theorem dX7_told_17 : decode cX7_told 17 = .ok (.ifCond .ne 12, 3) := by decide +kernel
theorem dX7_told_20 : decode cX7_told 20 = .ok (.aload_n 0, 1) := by decide +kernel
theorem dX7_told_21 : decode cX7_told 21 = .ok (.getfield 9, 3) := by decide +kernel
theorem dX7_told_24 : decode cX7_told 24 = .ok (.iload_n 1, 1) := by decide +kernel
theorem dX7_told_25 : decode cX7_told 25 = .ok (.iaload, 1) := by decide +kernel
theorem dX7_told_26 : decode cX7_told 26 = .ok (.goto 9, 3) := by decide +kernel
theorem dX7_told_29 : decode cX7_told 29 = .ok (.aload_n 0, 1) := by decide +kernel
theorem dX7_told_30 : decode cX7_told 30 = .ok (.getfield 13, 3) := by decide +kernel
theorem dX7_told_33 : decode cX7_told 33 = .ok (.iload_n 1, 1) := by decide +kernel
theorem dX7_told_34 : decode cX7_told 34 = .ok (.iaload, 1) := by decide +kernel
theorem dX7_told_35 : decode cX7_told 35 = .ok (.ireturn, 1) := by decide +kernel
abbrev po_X7_told (cI cJ : ClassId) (hX7 : Nat) (aX7_above : Nat) (aX7_below : Nat) (hX3 : Nat) (hX2 : Nat) (hX1 : Nat) (hX6 : Nat) (hX0 : Nat) (hX5 : Nat) (s_above : Int → Int) (s_below : Int → Int) (Q : Int → Prop) : Option Value → va_W → Prop := fun rv w1 => ∃ (r0 : Int), rv = some (.int (i32 r0)) ∧ w1 = [(hX7, .inr (6, [.ref aX7_above, .ref aX7_below, .ref hX3, .ref hX2, .ref hX1, .ref hX6, .ref hX0, .ref hX5])), (aX7_above, aI cI 8 s_above), (aX7_below, aI cI 8 s_below)] ∧ r32 r0 ∧ Q r0
def wp_X7_told_14 (Q : Int → Prop) (s_above : Int → Int) (s_below : Int → Int) : Prop := Q (-1)
set_option maxHeartbeats 4000000 in
set_option maxRecDepth 100000 in
theorem s_X7_told_14 {X : Cx} (g : Gd X cX7_told RX7 (some .int) 3) (hR : X.R = rmL 2 0 0) (hX7 : Nat) (aX7_above : Nat) (aX7_below : Nat) (hX3 : Nat) (hX2 : Nat) (hX1 : Nat) (hX6 : Nat) (hX0 : Nat) (hX5 : Nat) (s_above : Int → Int) (s_below : Int → Int) (r_s_above : rr32 s_above) (r_s_below : rr32 s_below) (Q : Int → Prop) (hF : FQ X 0 0 (po_X7_told X.cI X.cJ hX7 aX7_above aX7_below hX3 hX2 hX1 hX6 hX0 hX5 s_above s_below Q)) : wp_X7_told_14 Q s_above s_below → Wat X 0 0 14 [] [] [(hX7, .inr (6, [.ref aX7_above, .ref aX7_below, .ref hX3, .ref hX2, .ref hX1, .ref hX6, .ref hX0, .ref hX5])), (aX7_above, aI X.cI 8 s_above), (aX7_below, aI X.cI 8 s_below)] := by
  intro h
  rw [wp_X7_told_14] at h
  refine q_iconst g (-1) dX7_told_14 ?_
  exact q_iret g hF ⟨(-1), rfl, rfl, (r32_lit _ (by decide)), h⟩ dX7_told_15
def wp_X7_told_35 (Q : Int → Prop) (s_above : Int → Int) (s_below : Int → Int) (k0 : Int) : Prop := Q k0
set_option maxHeartbeats 4000000 in
set_option maxRecDepth 100000 in
theorem s_X7_told_35 {X : Cx} (g : Gd X cX7_told RX7 (some .int) 3) (hR : X.R = rmL 2 0 0) (hX7 : Nat) (aX7_above : Nat) (aX7_below : Nat) (hX3 : Nat) (hX2 : Nat) (hX1 : Nat) (hX6 : Nat) (hX0 : Nat) (hX5 : Nat) (s_above : Int → Int) (s_below : Int → Int) (r_s_above : rr32 s_above) (r_s_below : rr32 s_below) (Q : Int → Prop) (hF : FQ X 0 0 (po_X7_told X.cI X.cJ hX7 aX7_above aX7_below hX3 hX2 hX1 hX6 hX0 hX5 s_above s_below Q)) : ∀ (k0 : Int), r32 k0 → wp_X7_told_35 Q s_above s_below k0 → Wat X 0 0 35 [] [.int (i32 k0)] [(hX7, .inr (6, [.ref aX7_above, .ref aX7_below, .ref hX3, .ref hX2, .ref hX1, .ref hX6, .ref hX0, .ref hX5])), (aX7_above, aI X.cI 8 s_above), (aX7_below, aI X.cI 8 s_below)] := by
  intro k0 r_k0 h
  rw [wp_X7_told_35] at h
  exact q_iret g hF ⟨k0, rfl, rfl, r_k0, h⟩ dX7_told_35
def wp_X7_told (Q : Int → Prop) (s_above : Int → Int) (s_below : Int → Int) (l1 : Int) (l2 : Int) : Prop := wp_X7_isRegister (fun (x1 : Int) => ((x1 = 0 → wp_X7_told_14 Q s_above s_below) ∧
  (¬ (x1 = 0) → wp_X7_isHalf (fun (x8 : Int) => ((¬ x8 = 0 → ((¬ l2 = 0 → (0 ≤ l1 ∧ l1 < 8 ∧ wp_X7_told_35 Q s_above s_below (s_below l1))) ∧
  (l2 = 0 → (0 ≤ l1 ∧ l1 < 8 ∧ wp_X7_told_35 Q s_above s_below (s_above l1))))) ∧
  (x8 = 0 → wp_X7_told_14 Q s_above s_below))) l2))) l1
set_option maxHeartbeats 4000000 in
set_option maxRecDepth 100000 in
theorem c_X7_told (l : Launch) (D : va_G) (cI cJ : ClassId) (zt : Nat) (hX7 : Nat) (aX7_above : Nat) (aX7_below : Nat) (hX3 : Nat) (hX2 : Nat) (hX1 : Nat) (hX6 : Nat) (hX0 : Nat) (hX5 : Nat) (s_above : Int → Int) (s_below : Int → Int) (l1 : Int) (l2 : Int) (Q : Int → Prop) (r_s_above : rr32 s_above) (r_s_below : rr32 s_below) (r_l1 : r32 l1) (r_l2 : r32 l2) (h : wp_X7_told Q s_above s_below l1 l2) : Ct l D cI cJ zt yX7_told cX7_told 3 (some .int) 2 0 0 [.ref hX7, .int (i32 l1), .int (i32 l2)] [(hX7, .inr (6, [.ref aX7_above, .ref aX7_below, .ref hX3, .ref hX2, .ref hX1, .ref hX6, .ref hX0, .ref hX5])), (aX7_above, aI cI 8 s_above), (aX7_below, aI cI 8 s_below)] (po_X7_told cI cJ hX7 aX7_above aX7_below hX3 hX2 hX1 hX6 hX0 hX5 s_above s_below Q) := by
  refine ct_of (by decide +kernel) (Nat.le_of_ble_eq_true rfl) (fun X hl hDD hcI hcJ hzt hR hF hnm g => ?_)
  subst hl; subst hDD; subst hcI; subst hcJ; subst hzt
  show Wat X 0 0 0 [(0, .ref hX7), (1, .int (i32 l1)), (2, .int (i32 l2))] [] [(hX7, .inr (6, [.ref aX7_above, .ref aX7_below, .ref hX3, .ref hX2, .ref hX1, .ref hX6, .ref hX0, .ref hX5])), (aX7_above, aI X.cI 8 s_above), (aX7_below, aI X.cI 8 s_below)]
  replace g : Gd X cX7_told RX7 (some .int) 3 := g
  rw [wp_X7_told] at h
  refine q_iload_n g 1 1 rfl dX7_told_0 ?_
  refine q_callS (lev := 1) (mc := 0) (ms := 0) (As := [.int (i32 l1)]) g 64 (c_X7_isRegister X.l X.D X.cI X.cJ X.zt l1 _ r_l1 h) (wr := [(hX7, .inr (6, [.ref aX7_above, .ref aX7_below, .ref hX3, .ref hX2, .ref hX1, .ref hX6, .ref hX0, .ref hX5])), (aX7_above, aI X.cI 8 s_above), (aX7_below, aI X.cI 8 s_below)]) [] [0, 1, 2] rfl rfl rfl (by decide) (by decide) (by decide) wM_X7_64 wT_X7_isRegister wZ_X7 wC_X7_isRegister 1 rfl (by decide +kernel) (by rw [hR]; exact ⟨by show 1 + 1 ≤ 2; omega, by show 8 + (1 + 11) + 100 * 1 ≤ 100 * 2; omega⟩) (by rw [hR]; exact ⟨Nat.le_refl _, Nat.le_refl _⟩) (Nat.le_of_ble_eq_true rfl) rfl dX7_told_1 (fun rv w1 hq => ?_)
  obtain ⟨x1, rfl, rfl, rx1, h⟩ := hq
  show Wat X 0 0 4 [(0, .ref hX7), (1, .int (i32 l1)), (2, .int (i32 l2))] [.int (i32 x1)] [(hX7, .inr (6, [.ref aX7_above, .ref aX7_below, .ref hX3, .ref hX2, .ref hX1, .ref hX6, .ref hX0, .ref hX5])), (aX7_above, aI X.cI 8 s_above), (aX7_below, aI X.cI 8 s_below)]
  refine q_if_eq g (10) 14 rx1 (by decide) dX7_told_4 (fun b4 => ?_) (fun b4 => ?_)
  · replace h := h.1 b4
    refine q_lv (lv' := []) [] rfl ?_
    exact s_X7_told_14 g hR hX7 aX7_above aX7_below hX3 hX2 hX1 hX6 hX0 hX5 s_above s_below r_s_above r_s_below Q hF h
  replace h := h.2 b4
  refine q_iload_n g 2 2 rfl dX7_told_7 ?_
  refine q_callS (lev := 1) (mc := 0) (ms := 0) (As := [.int (i32 l2)]) g 73 (c_X7_isHalf X.l X.D X.cI X.cJ X.zt l2 _ r_l2 h) (wr := [(hX7, .inr (6, [.ref aX7_above, .ref aX7_below, .ref hX3, .ref hX2, .ref hX1, .ref hX6, .ref hX0, .ref hX5])), (aX7_above, aI X.cI 8 s_above), (aX7_below, aI X.cI 8 s_below)]) [] [0, 1, 2] rfl rfl rfl (by decide) (by decide) (by decide) wM_X7_73 wT_X7_isHalf wZ_X7 wC_X7_isHalf 1 rfl (by decide +kernel) (by rw [hR]; exact ⟨by show 1 + 1 ≤ 2; omega, by show 8 + (1 + 11) + 100 * 1 ≤ 100 * 2; omega⟩) (by rw [hR]; exact ⟨Nat.le_refl _, Nat.le_refl _⟩) (Nat.le_of_ble_eq_true rfl) rfl dX7_told_8 (fun rv w1 hq => ?_)
  obtain ⟨x8, rfl, rfl, rx8, h⟩ := hq
  show Wat X 0 0 11 [(0, .ref hX7), (1, .int (i32 l1)), (2, .int (i32 l2))] [.int (i32 x8)] [(hX7, .inr (6, [.ref aX7_above, .ref aX7_below, .ref hX3, .ref hX2, .ref hX1, .ref hX6, .ref hX0, .ref hX5])), (aX7_above, aI X.cI 8 s_above), (aX7_below, aI X.cI 8 s_below)]
  refine q_if_ne g (5) 16 rx8 (by decide) dX7_told_11 (fun b11 => ?_) (fun b11 => ?_)
  · replace h := h.1 b11
    refine q_iload_n g 2 2 rfl dX7_told_16 ?_
    refine q_if_ne g (12) 29 r_l2 (by decide) dX7_told_17 (fun b17 => ?_) (fun b17 => ?_)
    · replace h := h.1 b17
      refine q_aload_n g 0 0 rfl dX7_told_29 ?_
      refine q_get (C := RX7) (T := TX7) (N := 8) g 13 inX7 0 1 rfl rfl (by decide) wF_X7_13 rfl dX7_told_30 ?_
      refine q_iload_n g 1 1 rfl dX7_told_33 ?_
      obtain ⟨c34, h⟩ := h
      obtain ⟨e34, h⟩ := h
      refine q_iald g 2 rfl c34 e34 (by decide) dX7_told_34 ?_
      refine q_lv (lv' := []) [] rfl ?_
      exact s_X7_told_35 g hR hX7 aX7_above aX7_below hX3 hX2 hX1 hX6 hX0 hX5 s_above s_below r_s_above r_s_below Q hF (s_below l1) (r_s_below _) h
    replace h := h.2 b17
    refine q_aload_n g 0 0 rfl dX7_told_20 ?_
    refine q_get (C := RX7) (T := TX7) (N := 8) g 9 inX7 0 0 rfl rfl (by decide) wF_X7_9 rfl dX7_told_21 ?_
    refine q_iload_n g 1 1 rfl dX7_told_24 ?_
    obtain ⟨c25, h⟩ := h
    obtain ⟨e25, h⟩ := h
    refine q_iald g 1 rfl c25 e25 (by decide) dX7_told_25 ?_
    refine q_goto g (9) 35 (by decide) dX7_told_26 ?_
    refine q_lv (lv' := []) [] rfl ?_
    exact s_X7_told_35 g hR hX7 aX7_above aX7_below hX3 hX2 hX1 hX6 hX0 hX5 s_above s_below r_s_above r_s_below Q hF (s_above l1) (r_s_above _) h
  replace h := h.2 b11
  refine q_lv (lv' := []) [] rfl ?_
  exact s_X7_told_14 g hR hX7 aX7_above aX7_below hX3 hX2 hX1 hX6 hX0 hX5 s_above s_below r_s_above r_s_below Q hF h
theorem dX7_wish_0 : decode cX7_wish 0 = .ok (.iload_n 1, 1) := by decide +kernel
theorem dX7_wish_1 : decode cX7_wish 1 = .ok (.iconst 1, 1) := by decide +kernel
theorem dX7_wish_2 : decode cX7_wish 2 = .ok (.if_icmp .lt 9, 3) := by decide +kernel
theorem dX7_wish_5 : decode cX7_wish 5 = .ok (.iload_n 1, 1) := by decide +kernel
theorem dX7_wish_6 : decode cX7_wish 6 = .ok (.bipush 8, 2) := by decide +kernel
theorem dX7_wish_8 : decode cX7_wish 8 = .ok (.if_icmp .le 5, 3) := by decide +kernel
theorem dX7_wish_11 : decode cX7_wish 11 = .ok (.iconst (-1), 1) := by decide +kernel
theorem dX7_wish_12 : decode cX7_wish 12 = .ok (.ireturn, 1) := by decide +kernel
theorem dX7_wish_13 : decode cX7_wish 13 = .ok (.aload_n 0, 1) := by decide +kernel
theorem dX7_wish_14 : decode cX7_wish 14 = .ok (.getfield 40, 3) := by decide +kernel
theorem dX7_wish_17 : decode cX7_wish 17 = .ok (.iload_n 1, 1) := by decide +kernel
theorem dX7_wish_18 : decode cX7_wish 18 = .ok (.lload_n 2, 1) := by decide +kernel
theorem dX7_wish_19 : decode cX7_wish 19 = .ok (.invokevirtual 131, 3) := by decide +kernel
theorem dX7_wish_22 : decode cX7_wish 22 = .ok (.iload_n 1, 1) := by decide +kernel
theorem dX7_wish_23 : decode cX7_wish 23 = .ok (.ireturn, 1) := by decide +kernel
abbrev po_X7_wish (cI cJ : ClassId) (hX7 : Nat) (aX7_above : Nat) (aX7_below : Nat) (hX3 : Nat) (hX2 : Nat) (hX1 : Nat) (hX6 : Nat) (hX0 : Nat) (hX5 : Nat) (aX6_letters : Nat) (Q : Int → (Int → Int) → Int → Int → Prop) : Option Value → va_W → Prop := fun rv w1 => ∃ (r0 : Int) (w_letters : Int → Int) (w_size : Int) (w_wrong : Int), rv = some (.int (i32 r0)) ∧ w1 = [(hX7, .inr (6, [.ref aX7_above, .ref aX7_below, .ref hX3, .ref hX2, .ref hX1, .ref hX6, .ref hX0, .ref hX5])), (hX6, .inr (5, [.ref aX6_letters, .int (i32 w_size), .int (i32 w_wrong)])), (aX6_letters, aI cI 8 w_letters)] ∧ r32 r0 ∧ rr32 w_letters ∧ r32 w_size ∧ r32 w_wrong ∧ Q r0 w_letters w_size w_wrong
def wp_X7_wish_11 (Q : Int → (Int → Int) → Int → Int → Prop) (w_letters : Int → Int) (w_size : Int) (w_wrong : Int) : Prop := Q (-1) w_letters w_size w_wrong
set_option maxHeartbeats 4000000 in
set_option maxRecDepth 100000 in
theorem s_X7_wish_11 {X : Cx} (g : Gd X cX7_wish RX7 (some .int) 4) (hR : X.R = rmL 4 0 0) (hX7 : Nat) (aX7_above : Nat) (aX7_below : Nat) (hX3 : Nat) (hX2 : Nat) (hX1 : Nat) (hX6 : Nat) (hX0 : Nat) (hX5 : Nat) (aX6_letters : Nat) (Q : Int → (Int → Int) → Int → Int → Prop) (hF : FQ X 0 0 (po_X7_wish X.cI X.cJ hX7 aX7_above aX7_below hX3 hX2 hX1 hX6 hX0 hX5 aX6_letters Q)) : ∀ (w_letters : Int → Int) (w_size : Int) (w_wrong : Int), rr32 w_letters → r32 w_size → r32 w_wrong → wp_X7_wish_11 Q w_letters w_size w_wrong → Wat X 0 0 11 [] [] [(hX7, .inr (6, [.ref aX7_above, .ref aX7_below, .ref hX3, .ref hX2, .ref hX1, .ref hX6, .ref hX0, .ref hX5])), (hX6, .inr (5, [.ref aX6_letters, .int (i32 w_size), .int (i32 w_wrong)])), (aX6_letters, aI X.cI 8 w_letters)] := by
  intro w_letters w_size w_wrong r_w_letters r_w_size r_w_wrong h
  rw [wp_X7_wish_11] at h
  refine q_iconst g (-1) dX7_wish_11 ?_
  exact q_iret g hF ⟨(-1), w_letters, w_size, w_wrong, rfl, rfl, (r32_lit _ (by decide)), r_w_letters, r_w_size, r_w_wrong, h⟩ dX7_wish_12
def wp_X7_wish (Q : Int → (Int → Int) → Int → Int → Prop) (w_letters : Int → Int) (w_size : Int) (w_wrong : Int) (l1 : Int) (l2 : Int) : Prop := ((l1 < 1 → wp_X7_wish_11 Q w_letters w_size w_wrong) ∧
  (¬ (l1 < 1) → ((l1 ≤ 8 → wp_X6_tell (fun (w_letters_19 : Int → Int) (w_size_19 : Int) (w_wrong_19 : Int) => Q l1 w_letters_19 w_size_19 w_wrong_19) w_letters w_size w_wrong l1 l2) ∧
  (¬ (l1 ≤ 8) → wp_X7_wish_11 Q w_letters w_size w_wrong))))
set_option maxHeartbeats 4000000 in
set_option maxRecDepth 100000 in
theorem c_X7_wish (l : Launch) (D : va_G) (cI cJ : ClassId) (zt : Nat) (hX7 : Nat) (aX7_above : Nat) (aX7_below : Nat) (hX3 : Nat) (hX2 : Nat) (hX1 : Nat) (hX6 : Nat) (hX0 : Nat) (hX5 : Nat) (aX6_letters : Nat) (w_size : Int) (w_wrong : Int) (w_letters : Int → Int) (l1 : Int) (l2 : Int) (Q : Int → (Int → Int) → Int → Int → Prop) (r_w_letters : rr32 w_letters) (r_w_size : r32 w_size) (r_w_wrong : r32 w_wrong) (r_l1 : r32 l1) (r_l2 : r64 l2) (h : wp_X7_wish Q w_letters w_size w_wrong l1 l2) : Ct l D cI cJ zt yX7_wish cX7_wish 4 (some .int) 4 0 0 [.ref hX7, .int (i32 l1), .long (i64 l2)] [(hX7, .inr (6, [.ref aX7_above, .ref aX7_below, .ref hX3, .ref hX2, .ref hX1, .ref hX6, .ref hX0, .ref hX5])), (hX6, .inr (5, [.ref aX6_letters, .int (i32 w_size), .int (i32 w_wrong)])), (aX6_letters, aI cI 8 w_letters)] (po_X7_wish cI cJ hX7 aX7_above aX7_below hX3 hX2 hX1 hX6 hX0 hX5 aX6_letters Q) := by
  refine ct_of (by decide +kernel) (Nat.le_of_ble_eq_true rfl) (fun X hl hDD hcI hcJ hzt hR hF hnm g => ?_)
  subst hl; subst hDD; subst hcI; subst hcJ; subst hzt
  show Wat X 0 0 0 [(0, .ref hX7), (1, .int (i32 l1)), (2, .long (i64 l2))] [] [(hX7, .inr (6, [.ref aX7_above, .ref aX7_below, .ref hX3, .ref hX2, .ref hX1, .ref hX6, .ref hX0, .ref hX5])), (hX6, .inr (5, [.ref aX6_letters, .int (i32 w_size), .int (i32 w_wrong)])), (aX6_letters, aI X.cI 8 w_letters)]
  replace g : Gd X cX7_wish RX7 (some .int) 4 := g
  rw [wp_X7_wish] at h
  refine q_iload_n g 1 1 rfl dX7_wish_0 ?_
  refine q_iconst g (1) dX7_wish_1 ?_
  refine q_icmp_lt g (9) 11 r_l1 (r32_lit _ (by decide)) (by decide) dX7_wish_2 (fun b2 => ?_) (fun b2 => ?_)
  · replace h := h.1 b2
    refine q_lv (lv' := []) [] rfl ?_
    exact s_X7_wish_11 g hR hX7 aX7_above aX7_below hX3 hX2 hX1 hX6 hX0 hX5 aX6_letters Q hF w_letters w_size w_wrong r_w_letters r_w_size r_w_wrong h
  replace h := h.2 b2
  refine q_iload_n g 1 1 rfl dX7_wish_5 ?_
  refine q_bipush g (8) (by decide) (by decide) dX7_wish_6 ?_
  refine q_icmp_le g (5) 13 r_l1 (r32_lit _ (by decide)) (by decide) dX7_wish_8 (fun b8 => ?_) (fun b8 => ?_)
  · replace h := h.1 b8
    refine q_aload_n g 0 0 rfl dX7_wish_13 ?_
    refine q_get (C := RX7) (T := TX7) (N := 8) g 40 inX7 0 5 rfl rfl (by decide) wF_X7_40 rfl dX7_wish_14 ?_
    refine q_iload_n g 1 1 rfl dX7_wish_17 ?_
    refine q_lload_n g 2 2 rfl dX7_wish_18 ?_
    refine q_callV (lev := 3) (mc := 0) (ms := 0) g 131 (c_X6_tell X.l X.D X.cI X.cJ X.zt hX6 aX6_letters w_size w_wrong w_letters l1 l2 _ r_w_letters r_w_size r_w_wrong r_l1 r_l2 h) (wr := [(hX7, .inr (6, [.ref aX7_above, .ref aX7_below, .ref hX3, .ref hX2, .ref hX1, .ref hX6, .ref hX0, .ref hX5]))]) [1, 2] [0] rfl rfl rfl (by decide) (by decide) (by decide) (ci := 5) rfl rfl rfl wM_X7_131 wI_X6_tell wS_X6_tell wZ_X6 wC_X6_tell 2 rfl (by decide +kernel) (by rw [hR]; exact ⟨by show 3 + 1 ≤ 4; omega, by show 8 + (5 + 11) + 100 * 3 ≤ 100 * 4; omega⟩) (by rw [hR]; exact ⟨Nat.le_refl _, Nat.le_refl _⟩) (Nat.le_of_ble_eq_true rfl) rfl dX7_wish_19 (fun rv w1 hq => ?_)
    obtain ⟨w_letters_19, w_size_19, w_wrong_19, rfl, rfl, rw_letters_19, rw_size_19, rw_wrong_19, h⟩ := hq
    show Wat X 0 0 22 [(0, .ref hX7), (1, .int (i32 l1)), (2, .long (i64 l2))] [] [(hX7, .inr (6, [.ref aX7_above, .ref aX7_below, .ref hX3, .ref hX2, .ref hX1, .ref hX6, .ref hX0, .ref hX5])), (hX6, .inr (5, [.ref aX6_letters, .int (i32 w_size_19), .int (i32 w_wrong_19)])), (aX6_letters, aI X.cI 8 w_letters_19)]
    refine q_iload_n g 1 1 rfl dX7_wish_22 ?_
    exact q_iret g hF ⟨l1, w_letters_19, w_size_19, w_wrong_19, rfl, rfl, r_l1, rw_letters_19, rw_size_19, rw_wrong_19, h⟩ dX7_wish_23
  replace h := h.2 b8
  refine q_lv (lv' := []) [] rfl ?_
  exact s_X7_wish_11 g hR hX7 aX7_above aX7_below hX3 hX2 hX1 hX6 hX0 hX5 aX6_letters Q hF w_letters w_size w_wrong r_w_letters r_w_size r_w_wrong h
