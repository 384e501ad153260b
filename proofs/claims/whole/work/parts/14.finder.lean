theorem wC_J9_max_7cf53 : Cond.code yJ9_max_7cf53 cJ9_max_7cf53 2 (some .int) ∈ TT := List.mem_filter.mpr ⟨List.mem_append_right _ (List.mem_of_getElem? (i := 425) (by decide +kernel)), rfl⟩
theorem wC_J9_min_7cf53 : Cond.code yJ9_min_7cf53 cJ9_min_7cf53 2 (some .int) ∈ TT := List.mem_filter.mpr ⟨List.mem_append_right _ (List.mem_of_getElem? (i := 357) (by decide +kernel)), rfl⟩
theorem wC_X2_bar : Cond.code yX2_bar cX2_bar 4 none ∈ TT := List.mem_filter.mpr ⟨List.mem_append_right _ (List.mem_of_getElem? (i := 388) (by decide +kernel)), rfl⟩
theorem wC_X2_canMake : Cond.code yX2_canMake cX2_canMake 6 (some .boolean) ∈ TT := List.mem_filter.mpr ⟨List.mem_append_right _ (List.mem_of_getElem? (i := 429) (by decide +kernel)), rfl⟩
theorem wC_X2_collect : Cond.code yX2_collect cX2_collect 3 (some .int) ∈ TT := List.mem_filter.mpr ⟨List.mem_append_right _ (List.mem_of_getElem? (i := 406) (by decide +kernel)), rfl⟩
theorem wC_X2_endWith : Cond.code yX2_endWith cX2_endWith 8 none ∈ TT := List.mem_filter.mpr ⟨List.mem_append_right _ (List.mem_of_getElem? (i := 413) (by decide +kernel)), rfl⟩
theorem wC_X2_extend : Cond.code yX2_extend cX2_extend 13 none ∈ TT := List.mem_filter.mpr ⟨List.mem_append_right _ (List.mem_of_getElem? (i := 409) (by decide +kernel)), rfl⟩
theorem wC_X2_findParts : Cond.code yX2_findParts cX2_findParts 2 (some .boolean) ∈ TT := List.mem_filter.mpr ⟨List.mem_append_right _ (List.mem_of_getElem? (i := 392) (by decide +kernel)), rfl⟩
theorem wC_X2_firstNotAbove : Cond.code yX2_firstNotAbove cX2_firstNotAbove 5 (some .int) ∈ TT := List.mem_filter.mpr ⟨List.mem_append_right _ (List.mem_of_getElem? (i := 417) (by decide +kernel)), rfl⟩
theorem wC_X2_gather : Cond.code yX2_gather cX2_gather 5 (some .int) ∈ TT := List.mem_filter.mpr ⟨List.mem_append_right _ (List.mem_of_getElem? (i := 374) (by decide +kernel)), rfl⟩
theorem wC_X2_isBarred : Cond.code yX2_isBarred cX2_isBarred 2 (some .boolean) ∈ TT := List.mem_filter.mpr ⟨List.mem_append_right _ (List.mem_of_getElem? (i := 378) (by decide +kernel)), rfl⟩
theorem wC_X2_keep : Cond.code yX2_keep cX2_keep 4 none ∈ TT := List.mem_filter.mpr ⟨List.mem_append_right _ (List.mem_of_getElem? (i := 422) (by decide +kernel)), rfl⟩
theorem wC_X2_leaveOutHopeless : Cond.code yX2_leaveOutHopeless cX2_leaveOutHopeless 7 (some .boolean) ∈ TT := List.mem_filter.mpr ⟨List.mem_append_right _ (List.mem_of_getElem? (i := 361) (by decide +kernel)), rfl⟩
theorem wC_X2_leaveOutMultiples : Cond.code yX2_leaveOutMultiples cX2_leaveOutMultiples 10 (some .boolean) ∈ TT := List.mem_filter.mpr ⟨List.mem_append_right _ (List.mem_of_getElem? (i := 370) (by decide +kernel)), rfl⟩
theorem wC_X2_powerIn : Cond.code yX2_powerIn cX2_powerIn 5 (some .int) ∈ TT := List.mem_filter.mpr ⟨List.mem_append_right _ (List.mem_of_getElem? (i := 366) (by decide +kernel)), rfl⟩
theorem wC_X2_usefulOf : Cond.code yX2_usefulOf cX2_usefulOf 10 (some .int) ∈ TT := List.mem_filter.mpr ⟨List.mem_append_right _ (List.mem_of_getElem? (i := 384) (by decide +kernel)), rfl⟩
theorem wC_X2_weigh : Cond.code yX2_weigh cX2_weigh 2 none ∈ TT := List.mem_filter.mpr ⟨List.mem_append_right _ (List.mem_of_getElem? (i := 398) (by decide +kernel)), rfl⟩
theorem wF_X2_11 : Cond.fieldLink RX2 11 (TX2 0).1 (TX2 0).2.1 (TX2 0).2.2.1 ∈ TT := List.mem_filter.mpr ⟨List.mem_append_right _ (List.mem_of_getElem? (i := 42) (by decide +kernel)), rfl⟩
theorem wF_X2_15 : Cond.fieldLink RX2 15 (TX2 1).1 (TX2 1).2.1 (TX2 1).2.2.1 ∈ TT := List.mem_filter.mpr ⟨List.mem_append_right _ (List.mem_of_getElem? (i := 43) (by decide +kernel)), rfl⟩
theorem wF_X2_21 : Cond.fieldLink RX2 21 (TX2 2).1 (TX2 2).2.1 (TX2 2).2.2.1 ∈ TT := List.mem_filter.mpr ⟨List.mem_append_right _ (List.mem_of_getElem? (i := 44) (by decide +kernel)), rfl⟩
theorem wF_X2_24 : Cond.fieldLink RX2 24 (TX2 3).1 (TX2 3).2.1 (TX2 3).2.2.1 ∈ TT := List.mem_filter.mpr ⟨List.mem_append_right _ (List.mem_of_getElem? (i := 45) (by decide +kernel)), rfl⟩
theorem wF_X2_27 : Cond.fieldLink RX2 27 (TX2 4).1 (TX2 4).2.1 (TX2 4).2.2.1 ∈ TT := List.mem_filter.mpr ⟨List.mem_append_right _ (List.mem_of_getElem? (i := 46) (by decide +kernel)), rfl⟩
theorem wF_X2_30 : Cond.fieldLink RX2 30 (TX2 5).1 (TX2 5).2.1 (TX2 5).2.2.1 ∈ TT := List.mem_filter.mpr ⟨List.mem_append_right _ (List.mem_of_getElem? (i := 47) (by decide +kernel)), rfl⟩
theorem wF_X2_33 : Cond.fieldLink RX2 33 (TX2 6).1 (TX2 6).2.1 (TX2 6).2.2.1 ∈ TT := List.mem_filter.mpr ⟨List.mem_append_right _ (List.mem_of_getElem? (i := 48) (by decide +kernel)), rfl⟩
theorem wF_X2_36 : Cond.fieldLink RX2 36 (TX2 7).1 (TX2 7).2.1 (TX2 7).2.2.1 ∈ TT := List.mem_filter.mpr ⟨List.mem_append_right _ (List.mem_of_getElem? (i := 49) (by decide +kernel)), rfl⟩
theorem wF_X2_45 : Cond.fieldLink RX2 45 (TX2 9).1 (TX2 9).2.1 (TX2 9).2.2.1 ∈ TT := List.mem_filter.mpr ⟨List.mem_append_right _ (List.mem_of_getElem? (i := 51) (by decide +kernel)), rfl⟩
theorem wF_X2_49 : Cond.fieldLink RX2 49 (TX2 10).1 (TX2 10).2.1 (TX2 10).2.2.1 ∈ TT := List.mem_filter.mpr ⟨List.mem_append_right _ (List.mem_of_getElem? (i := 52) (by decide +kernel)), rfl⟩
theorem wF_X2_52 : Cond.fieldLink RX2 52 (TX2 12).1 (TX2 12).2.1 (TX2 12).2.2.1 ∈ TT := List.mem_filter.mpr ⟨List.mem_append_right _ (List.mem_of_getElem? (i := 54) (by decide +kernel)), rfl⟩
theorem wF_X2_56 : Cond.fieldLink RX2 56 (TX2 8).1 (TX2 8).2.1 (TX2 8).2.2.1 ∈ TT := List.mem_filter.mpr ⟨List.mem_append_right _ (List.mem_of_getElem? (i := 50) (by decide +kernel)), rfl⟩
theorem wF_X2_67 : Cond.fieldLink RX2 67 (TX2 11).1 (TX2 11).2.1 (TX2 11).2.2.1 ∈ TT := List.mem_filter.mpr ⟨List.mem_append_right _ (List.mem_of_getElem? (i := 53) (by decide +kernel)), rfl⟩
theorem wF_X2_73 : Cond.fieldLink RX2 73 (TX2 13).1 (TX2 13).2.1 (TX2 13).2.2.1 ∈ TT := List.mem_filter.mpr ⟨List.mem_append_right _ (List.mem_of_getElem? (i := 55) (by decide +kernel)), rfl⟩
theorem wF_X2_84 : Cond.fieldLink RX2 84 "SingleShares$Finder" "PRIMES_FALLING" "[I" ∈ TT := List.mem_filter.mpr ⟨List.mem_append_right _ (List.mem_of_getElem? (i := 362) (by decide +kernel)), rfl⟩
theorem wI_X2_bar : Cond.instanceMethod yX2_bar ∈ TT := List.mem_filter.mpr ⟨List.mem_append_right _ (List.mem_of_getElem? (i := 387) (by decide +kernel)), rfl⟩
theorem wI_X2_canMake : Cond.instanceMethod yX2_canMake ∈ TT := List.mem_filter.mpr ⟨List.mem_append_right _ (List.mem_of_getElem? (i := 428) (by decide +kernel)), rfl⟩
theorem wI_X2_collect : Cond.instanceMethod yX2_collect ∈ TT := List.mem_filter.mpr ⟨List.mem_append_right _ (List.mem_of_getElem? (i := 404) (by decide +kernel)), rfl⟩
theorem wI_X2_endWith : Cond.instanceMethod yX2_endWith ∈ TT := List.mem_filter.mpr ⟨List.mem_append_right _ (List.mem_of_getElem? (i := 412) (by decide +kernel)), rfl⟩
theorem wI_X2_findParts : Cond.instanceMethod yX2_findParts ∈ TT := List.mem_filter.mpr ⟨List.mem_append_right _ (List.mem_of_getElem? (i := 391) (by decide +kernel)), rfl⟩
theorem wI_X2_firstNotAbove : Cond.instanceMethod yX2_firstNotAbove ∈ TT := List.mem_filter.mpr ⟨List.mem_append_right _ (List.mem_of_getElem? (i := 416) (by decide +kernel)), rfl⟩
theorem wI_X2_gather : Cond.instanceMethod yX2_gather ∈ TT := List.mem_filter.mpr ⟨List.mem_append_right _ (List.mem_of_getElem? (i := 373) (by decide +kernel)), rfl⟩
theorem wI_X2_isBarred : Cond.instanceMethod yX2_isBarred ∈ TT := List.mem_filter.mpr ⟨List.mem_append_right _ (List.mem_of_getElem? (i := 377) (by decide +kernel)), rfl⟩
theorem wI_X2_keep : Cond.instanceMethod yX2_keep ∈ TT := List.mem_filter.mpr ⟨List.mem_append_right _ (List.mem_of_getElem? (i := 421) (by decide +kernel)), rfl⟩
theorem wI_X2_leaveOutHopeless : Cond.instanceMethod yX2_leaveOutHopeless ∈ TT := List.mem_filter.mpr ⟨List.mem_append_right _ (List.mem_of_getElem? (i := 360) (by decide +kernel)), rfl⟩
theorem wI_X2_leaveOutMultiples : Cond.instanceMethod yX2_leaveOutMultiples ∈ TT := List.mem_filter.mpr ⟨List.mem_append_right _ (List.mem_of_getElem? (i := 369) (by decide +kernel)), rfl⟩
theorem wI_X2_usefulOf : Cond.instanceMethod yX2_usefulOf ∈ TT := List.mem_filter.mpr ⟨List.mem_append_right _ (List.mem_of_getElem? (i := 383) (by decide +kernel)), rfl⟩
theorem wI_X2_weigh : Cond.instanceMethod yX2_weigh ∈ TT := List.mem_filter.mpr ⟨List.mem_append_right _ (List.mem_of_getElem? (i := 397) (by decide +kernel)), rfl⟩
theorem wL_X2_120 : Cond.constantLong RX2 120 (10000000000000000) ∈ TT := List.mem_filter.mpr ⟨List.mem_append_right _ (List.mem_of_getElem? (i := 394) (by decide +kernel)), rfl⟩
theorem wM_X2_101 : Cond.methodLink RX2 101 yX2_usefulOf ∈ TT := List.mem_filter.mpr ⟨List.mem_append_right _ (List.mem_of_getElem? (i := 381) (by decide +kernel)), rfl⟩
theorem wM_X2_105 : Cond.methodLink RX2 105 yX2_bar ∈ TT := List.mem_filter.mpr ⟨List.mem_append_right _ (List.mem_of_getElem? (i := 385) (by decide +kernel)), rfl⟩
theorem wM_X2_109 : Cond.methodLink RX2 109 yX2_isBarred ∈ TT := List.mem_filter.mpr ⟨List.mem_append_right _ (List.mem_of_getElem? (i := 375) (by decide +kernel)), rfl⟩
theorem wM_X2_113 : Cond.methodLink RX2 113 yX4_bit ∈ TT := List.mem_filter.mpr ⟨List.mem_append_right _ (List.mem_of_getElem? (i := 379) (by decide +kernel)), rfl⟩
theorem wM_X2_122 : Cond.methodLink RX2 122 yX2_endWith ∈ TT := List.mem_filter.mpr ⟨List.mem_append_right _ (List.mem_of_getElem? (i := 410) (by decide +kernel)), rfl⟩
theorem wM_X2_126 : Cond.methodLink RX2 126 yX2_firstNotAbove ∈ TT := List.mem_filter.mpr ⟨List.mem_append_right _ (List.mem_of_getElem? (i := 414) (by decide +kernel)), rfl⟩
theorem wM_X2_130 : Cond.methodLink RX2 130 yJ9_max_7cf53 ∈ TT := List.mem_filter.mpr ⟨List.mem_append_right _ (List.mem_of_getElem? (i := 423) (by decide +kernel)), rfl⟩
theorem wM_X2_133 : Cond.methodLink RX2 133 yX2_canMake ∈ TT := List.mem_filter.mpr ⟨List.mem_append_right _ (List.mem_of_getElem? (i := 426) (by decide +kernel)), rfl⟩
theorem wM_X2_137 : Cond.methodLink RX2 137 yX2_keep ∈ TT := List.mem_filter.mpr ⟨List.mem_append_right _ (List.mem_of_getElem? (i := 419) (by decide +kernel)), rfl⟩
theorem wM_X2_39 : Cond.methodLink RX2 39 yJ9_min_7cf53 ∈ TT := List.mem_filter.mpr ⟨List.mem_append_right _ (List.mem_of_getElem? (i := 355) (by decide +kernel)), rfl⟩
theorem wM_X2_59 : Cond.methodLink RX2 59 yX2_leaveOutHopeless ∈ TT := List.mem_filter.mpr ⟨List.mem_append_right _ (List.mem_of_getElem? (i := 358) (by decide +kernel)), rfl⟩
theorem wM_X2_63 : Cond.methodLink RX2 63 yX2_findParts ∈ TT := List.mem_filter.mpr ⟨List.mem_append_right _ (List.mem_of_getElem? (i := 389) (by decide +kernel)), rfl⟩
theorem wM_X2_70 : Cond.methodLink RX2 70 yX2_weigh ∈ TT := List.mem_filter.mpr ⟨List.mem_append_right _ (List.mem_of_getElem? (i := 395) (by decide +kernel)), rfl⟩
theorem wM_X2_76 : Cond.methodLink RX2 76 yX2_extend ∈ TT := List.mem_filter.mpr ⟨List.mem_append_right _ (List.mem_of_getElem? (i := 407) (by decide +kernel)), rfl⟩
theorem wM_X2_80 : Cond.methodLink RX2 80 yX2_collect ∈ TT := List.mem_filter.mpr ⟨List.mem_append_right _ (List.mem_of_getElem? (i := 671) (by decide +kernel)), rfl⟩
theorem wM_X2_87 : Cond.methodLink RX2 87 yX2_powerIn ∈ TT := List.mem_filter.mpr ⟨List.mem_append_right _ (List.mem_of_getElem? (i := 364) (by decide +kernel)), rfl⟩
theorem wM_X2_90 : Cond.methodLink RX2 90 yX2_leaveOutMultiples ∈ TT := List.mem_filter.mpr ⟨List.mem_append_right _ (List.mem_of_getElem? (i := 367) (by decide +kernel)), rfl⟩
theorem wM_X2_94 : Cond.methodLink RX2 94 yX2_gather ∈ TT := List.mem_filter.mpr ⟨List.mem_append_right _ (List.mem_of_getElem? (i := 371) (by decide +kernel)), rfl⟩
theorem wS_X2_bar : Cond.selects yX2_bar.cls yX2_bar yX2_bar ∈ TT := List.mem_filter.mpr ⟨List.mem_append_left _ (List.mem_of_getElem? (i := 16) (by decide +kernel)), rfl⟩
theorem wS_X2_canMake : Cond.selects yX2_canMake.cls yX2_canMake yX2_canMake ∈ TT := List.mem_filter.mpr ⟨List.mem_append_left _ (List.mem_of_getElem? (i := 22) (by decide +kernel)), rfl⟩
theorem wS_X2_collect : Cond.selects yX2_collect.cls yX2_collect yX2_collect ∈ TT := List.mem_filter.mpr ⟨List.mem_append_right _ (List.mem_of_getElem? (i := 405) (by decide +kernel)), rfl⟩
theorem wS_X2_endWith : Cond.selects yX2_endWith.cls yX2_endWith yX2_endWith ∈ TT := List.mem_filter.mpr ⟨List.mem_append_left _ (List.mem_of_getElem? (i := 19) (by decide +kernel)), rfl⟩
theorem wS_X2_findParts : Cond.selects yX2_findParts.cls yX2_findParts yX2_findParts ∈ TT := List.mem_filter.mpr ⟨List.mem_append_left _ (List.mem_of_getElem? (i := 17) (by decide +kernel)), rfl⟩
theorem wS_X2_firstNotAbove : Cond.selects yX2_firstNotAbove.cls yX2_firstNotAbove yX2_firstNotAbove ∈ TT := List.mem_filter.mpr ⟨List.mem_append_left _ (List.mem_of_getElem? (i := 20) (by decide +kernel)), rfl⟩
theorem wS_X2_gather : Cond.selects yX2_gather.cls yX2_gather yX2_gather ∈ TT := List.mem_filter.mpr ⟨List.mem_append_left _ (List.mem_of_getElem? (i := 13) (by decide +kernel)), rfl⟩
theorem wS_X2_isBarred : Cond.selects yX2_isBarred.cls yX2_isBarred yX2_isBarred ∈ TT := List.mem_filter.mpr ⟨List.mem_append_left _ (List.mem_of_getElem? (i := 14) (by decide +kernel)), rfl⟩
theorem wS_X2_keep : Cond.selects yX2_keep.cls yX2_keep yX2_keep ∈ TT := List.mem_filter.mpr ⟨List.mem_append_left _ (List.mem_of_getElem? (i := 21) (by decide +kernel)), rfl⟩
theorem wS_X2_leaveOutHopeless : Cond.selects yX2_leaveOutHopeless.cls yX2_leaveOutHopeless yX2_leaveOutHopeless ∈ TT := List.mem_filter.mpr ⟨List.mem_append_left _ (List.mem_of_getElem? (i := 11) (by decide +kernel)), rfl⟩
theorem wS_X2_leaveOutMultiples : Cond.selects yX2_leaveOutMultiples.cls yX2_leaveOutMultiples yX2_leaveOutMultiples ∈ TT := List.mem_filter.mpr ⟨List.mem_append_left _ (List.mem_of_getElem? (i := 12) (by decide +kernel)), rfl⟩
theorem wS_X2_usefulOf : Cond.selects yX2_usefulOf.cls yX2_usefulOf yX2_usefulOf ∈ TT := List.mem_filter.mpr ⟨List.mem_append_left _ (List.mem_of_getElem? (i := 15) (by decide +kernel)), rfl⟩
theorem wS_X2_weigh : Cond.selects yX2_weigh.cls yX2_weigh yX2_weigh ∈ TT := List.mem_filter.mpr ⟨List.mem_append_left _ (List.mem_of_getElem? (i := 18) (by decide +kernel)), rfl⟩
theorem wT_J9_max_7cf53 : Cond.static yJ9_max_7cf53 ∈ TT := List.mem_filter.mpr ⟨List.mem_append_right _ (List.mem_of_getElem? (i := 424) (by decide +kernel)), rfl⟩
theorem wT_J9_min_7cf53 : Cond.static yJ9_min_7cf53 ∈ TT := List.mem_filter.mpr ⟨List.mem_append_right _ (List.mem_of_getElem? (i := 356) (by decide +kernel)), rfl⟩
theorem wT_X2_extend : Cond.static yX2_extend ∈ TT := List.mem_filter.mpr ⟨List.mem_append_right _ (List.mem_of_getElem? (i := 408) (by decide +kernel)), rfl⟩
theorem wT_X2_powerIn : Cond.static yX2_powerIn ∈ TT := List.mem_filter.mpr ⟨List.mem_append_right _ (List.mem_of_getElem? (i := 365) (by decide +kernel)), rfl⟩
theorem wZ_X2 : Cond.initialized RX2 ∈ TT := List.mem_filter.mpr ⟨List.mem_append_right _ (List.mem_of_getElem? (i := 3) (by decide +kernel)), rfl⟩
theorem dX2_bar_0 : decode cX2_bar 0 = .ok (.iconst 0, 1) := by decide +kernel
theorem dX2_bar_1 : decode cX2_bar 1 = .ok (.istore_n 3, 1) := by decide +kernel
theorem dX2_bar_2 : decode cX2_bar 2 = .ok (.iload_n 3, 1) := by decide +kernel
theorem dX2_bar_3 : decode cX2_bar 3 = .ok (.iload_n 1, 1) := by decide +kernel
theorem dX2_bar_4 : decode cX2_bar 4 = .ok (.if_icmp .ge 40, 3) := by decide +kernel
theorem dX2_bar_7 : decode cX2_bar 7 = .ok (.iload_n 3, 1) := by decide +kernel
theorem dX2_bar_8 : decode cX2_bar 8 = .ok (.iconst 5, 1) := by decide +kernel
theorem dX2_bar_9 : decode cX2_bar 9 = .ok (.if_icmp .ge 35, 3) := by decide +kernel
theorem dX2_bar_12 : decode cX2_bar 12 = .ok (.iload_n 2, 1) := by decide +kernel
theorem dX2_bar_13 : decode cX2_bar 13 = .ok (.iload_n 3, 1) := by decide +kernel
theorem dX2_bar_14 : decode cX2_bar 14 = .ok (.ishr, 1) := by decide +kernel
theorem dX2_bar_15 : decode cX2_bar 15 = .ok (.iconst 1, 1) := by decide +kernel
theorem dX2_bar_16 : decode cX2_bar 16 = .ok (.iand, 1) := by decide +kernel
theorem dX2_bar_17 : decode cX2_bar 17 = .ok (.ifCond .ne 21, 3) := by decide +kernel
theorem dX2_bar_20 : decode cX2_bar 20 = .ok (.aload_n 0, 1) := by decide +kernel
theorem dX2_bar_21 : decode cX2_bar 21 = .ok (.dup, 1) := by decide +kernel
theorem dX2_bar_22 : decode cX2_bar 22 = .ok (.getfield 56, 3) := by decide +kernel
theorem dX2_bar_25 : decode cX2_bar 25 = .ok (.aload_n 0, 1) := by decide +kernel
theorem dX2_bar_26 : decode cX2_bar 26 = .ok (.getfield 11, 3) := by decide +kernel
theorem dX2_bar_29 : decode cX2_bar 29 = .ok (.iload_n 3, 1) := by decide +kernel
theorem dX2_bar_30 : decode cX2_bar 30 = .ok (.iaload, 1) := by decide +kernel
theorem dX2_bar_31 : decode cX2_bar 31 = .ok (.invokestatic 113, 3) := by decide +kernel
theorem dX2_bar_34 : decode cX2_bar 34 = .ok (.lor, 1) := by decide +kernel
theorem dX2_bar_35 : decode cX2_bar 35 = .ok (.putfield 56, 3) := by decide +kernel
theorem dX2_bar_38 : decode cX2_bar 38 = .ok (.iinc 3 1, 3) := by decide +kernel
theorem dX2_bar_41 : decode cX2_bar 41 = .ok (.goto (-39), 3) := by decide +kernel
theorem dX2_bar_44 : decode cX2_bar 44 = .ok (.return_, 1) := by decide +kernel
abbrev po_X2_bar (cI cJ : ClassId) (hX2 : Nat) (aX2_tried : Nat) (aX2_triedLeave : Nat) (aX2_numbers : Nat) (aX2_weights : Nat) (aX2_weightsAhead : Nat) (aX2_grains : Nat) (aX2_placeFrom : Nat) (aX2_first : Nat) (n_limit : Int) (n_size : Int) (n_parts : Int) (n_wanted : Int) (n_found : Int) (n_tried : Int → Int) (Q : Int → Prop) : Option Value → va_W → Prop := fun rv w1 => ∃ (n_barred : Int), rv = none ∧ w1 = [(hX2, .inr (2, [.ref aX2_tried, .ref aX2_triedLeave, .ref aX2_numbers, .ref aX2_weights, .ref aX2_weightsAhead, .ref aX2_grains, .ref aX2_placeFrom, .ref aX2_first, .long (i64 n_barred), .int (i32 n_limit), .int (i32 n_size), .long (i64 n_parts), .long (i64 n_wanted), .int (i32 n_found)])), (aX2_tried, aI cI 5 n_tried)] ∧ r64 n_barred ∧ Q n_barred
def wp_X2_bar_38 (Q : Int → Prop) (n_tried : Int → Int) (K_2 : Int → Int → Int → Int → Prop) (n_barred : Int) (l1 : Int) (l2 : Int) (l3 : Int) : Prop := (r32 (l3 + 1) ∧ K_2 n_barred l1 l2 (l3 + 1))
set_option maxHeartbeats 4000000 in
set_option maxRecDepth 100000 in
theorem s_X2_bar_38 {X : Cx} (g : Gd X cX2_bar RX2 none 4) (hR : X.R = rmL 2 0 0) (hX2 : Nat) (aX2_tried : Nat) (aX2_triedLeave : Nat) (aX2_numbers : Nat) (aX2_weights : Nat) (aX2_weightsAhead : Nat) (aX2_grains : Nat) (aX2_placeFrom : Nat) (aX2_first : Nat) (n_limit : Int) (n_size : Int) (n_parts : Int) (n_wanted : Int) (n_found : Int) (n_tried : Int → Int) (r_n_tried : rr32 n_tried) (Q : Int → Prop) (hF : FQ X 0 0 (po_X2_bar X.cI X.cJ hX2 aX2_tried aX2_triedLeave aX2_numbers aX2_weights aX2_weightsAhead aX2_grains aX2_placeFrom aX2_first n_limit n_size n_parts n_wanted n_found n_tried Q)) (K_2 : Int → Int → Int → Int → Prop) (hK_2 : ∀ (n_barred : Int) (l1 : Int) (l2 : Int) (l3 : Int), r64 n_barred → r32 l1 → r32 l2 → r32 l3 → K_2 n_barred l1 l2 l3 → Wat X 0 0 2 [(0, .ref hX2), (1, .int (i32 l1)), (2, .int (i32 l2)), (3, .int (i32 l3))] [] [(hX2, .inr (2, [.ref aX2_tried, .ref aX2_triedLeave, .ref aX2_numbers, .ref aX2_weights, .ref aX2_weightsAhead, .ref aX2_grains, .ref aX2_placeFrom, .ref aX2_first, .long (i64 n_barred), .int (i32 n_limit), .int (i32 n_size), .long (i64 n_parts), .long (i64 n_wanted), .int (i32 n_found)])), (aX2_tried, aI X.cI 5 n_tried)]) : ∀ (n_barred : Int) (l1 : Int) (l2 : Int) (l3 : Int), r64 n_barred → r32 l1 → r32 l2 → r32 l3 → wp_X2_bar_38 Q n_tried K_2 n_barred l1 l2 l3 → Wat X 0 0 38 [(0, .ref hX2), (1, .int (i32 l1)), (2, .int (i32 l2)), (3, .int (i32 l3))] [] [(hX2, .inr (2, [.ref aX2_tried, .ref aX2_triedLeave, .ref aX2_numbers, .ref aX2_weights, .ref aX2_weightsAhead, .ref aX2_grains, .ref aX2_placeFrom, .ref aX2_first, .long (i64 n_barred), .int (i32 n_limit), .int (i32 n_size), .long (i64 n_parts), .long (i64 n_wanted), .int (i32 n_found)])), (aX2_tried, aI X.cI 5 n_tried)] := by
  intro n_barred l1 l2 l3 r_n_barred r_l1 r_l2 r_l3 h
  rw [wp_X2_bar_38] at h
  obtain ⟨c38, h⟩ := h
  refine q_iinc (lv' := [(3, .int (i32 (l3 + 1))), (0, .ref hX2), (1, .int (i32 l1)), (2, .int (i32 l2))]) g 3 3 1 (by decide) rfl rfl dX2_bar_38 ?_
  refine q_goto g (-39) 2 (by decide) dX2_bar_41 ?_
  refine q_lv (lv' := [(0, .ref hX2), (1, .int (i32 l1)), (2, .int (i32 l2)), (3, .int (i32 (l3 + 1)))]) [1, 2, 3, 0] rfl ?_
  exact hK_2 n_barred l1 l2 (l3 + 1) r_n_barred r_l1 r_l2 c38 h
def wp_X2_bar_44 (Q : Int → Prop) (n_tried : Int → Int) (n_barred : Int) : Prop := Q n_barred
set_option maxHeartbeats 4000000 in
set_option maxRecDepth 100000 in
theorem s_X2_bar_44 {X : Cx} (g : Gd X cX2_bar RX2 none 4) (hR : X.R = rmL 2 0 0) (hX2 : Nat) (aX2_tried : Nat) (aX2_triedLeave : Nat) (aX2_numbers : Nat) (aX2_weights : Nat) (aX2_weightsAhead : Nat) (aX2_grains : Nat) (aX2_placeFrom : Nat) (aX2_first : Nat) (n_limit : Int) (n_size : Int) (n_parts : Int) (n_wanted : Int) (n_found : Int) (n_tried : Int → Int) (r_n_tried : rr32 n_tried) (Q : Int → Prop) (hF : FQ X 0 0 (po_X2_bar X.cI X.cJ hX2 aX2_tried aX2_triedLeave aX2_numbers aX2_weights aX2_weightsAhead aX2_grains aX2_placeFrom aX2_first n_limit n_size n_parts n_wanted n_found n_tried Q)) : ∀ (n_barred : Int), r64 n_barred → wp_X2_bar_44 Q n_tried n_barred → Wat X 0 0 44 [] [] [(hX2, .inr (2, [.ref aX2_tried, .ref aX2_triedLeave, .ref aX2_numbers, .ref aX2_weights, .ref aX2_weightsAhead, .ref aX2_grains, .ref aX2_placeFrom, .ref aX2_first, .long (i64 n_barred), .int (i32 n_limit), .int (i32 n_size), .long (i64 n_parts), .long (i64 n_wanted), .int (i32 n_found)])), (aX2_tried, aI X.cI 5 n_tried)] := by
  intro n_barred r_n_barred h
  rw [wp_X2_bar_44] at h
  exact q_vret g hF ⟨n_barred, rfl, rfl, r_n_barred, h⟩ dX2_bar_44
def wp_X2_bar_2 (Q : Int → Prop) (n_tried : Int → Int) : Nat → Int → Int → Int → Int → Prop
  | 0, _, _, _, _ => False
  | n + 1, n_barred, l1, l2, l3 => ((l1 ≤ l3 → wp_X2_bar_44 Q n_tried n_barred) ∧
  (¬ (l1 ≤ l3) → ((5 ≤ l3 → wp_X2_bar_44 Q n_tried n_barred) ∧
  (¬ (5 ≤ l3) → ((¬ (land32 (shr32 l2 l3) 1) = 0 → wp_X2_bar_38 Q n_tried (wp_X2_bar_2 Q n_tried n) n_barred l1 l2 l3) ∧
  ((land32 (shr32 l2 l3) 1) = 0 → (0 ≤ l3 ∧ l3 < 5 ∧ wp_X4_bit (fun (x31 : Int) => (∀ x35 : Int, x35 = (lor64 n_barred x31) → wp_X2_bar_38 Q n_tried (wp_X2_bar_2 Q n_tried n) x35 l1 l2 l3)) (n_tried l3))))))))
set_option maxHeartbeats 4000000 in
set_option maxRecDepth 100000 in
theorem s_X2_bar_2 {X : Cx} (g : Gd X cX2_bar RX2 none 4) (hR : X.R = rmL 2 0 0) (hX2 : Nat) (aX2_tried : Nat) (aX2_triedLeave : Nat) (aX2_numbers : Nat) (aX2_weights : Nat) (aX2_weightsAhead : Nat) (aX2_grains : Nat) (aX2_placeFrom : Nat) (aX2_first : Nat) (n_limit : Int) (n_size : Int) (n_parts : Int) (n_wanted : Int) (n_found : Int) (n_tried : Int → Int) (r_n_tried : rr32 n_tried) (Q : Int → Prop) (hF : FQ X 0 0 (po_X2_bar X.cI X.cJ hX2 aX2_tried aX2_triedLeave aX2_numbers aX2_weights aX2_weightsAhead aX2_grains aX2_placeFrom aX2_first n_limit n_size n_parts n_wanted n_found n_tried Q)) : ∀ (n : Nat) (n_barred : Int) (l1 : Int) (l2 : Int) (l3 : Int), r64 n_barred → r32 l1 → r32 l2 → r32 l3 → wp_X2_bar_2 Q n_tried n n_barred l1 l2 l3 → Wat X 0 0 2 [(0, .ref hX2), (1, .int (i32 l1)), (2, .int (i32 l2)), (3, .int (i32 l3))] [] [(hX2, .inr (2, [.ref aX2_tried, .ref aX2_triedLeave, .ref aX2_numbers, .ref aX2_weights, .ref aX2_weightsAhead, .ref aX2_grains, .ref aX2_placeFrom, .ref aX2_first, .long (i64 n_barred), .int (i32 n_limit), .int (i32 n_size), .long (i64 n_parts), .long (i64 n_wanted), .int (i32 n_found)])), (aX2_tried, aI X.cI 5 n_tried)] := by
  intro n
  induction n with
  | zero => intro n_barred l1 l2 l3 r_n_barred r_l1 r_l2 r_l3 h; exact False.elim h
  | succ n ih =>
    intro n_barred l1 l2 l3 r_n_barred r_l1 r_l2 r_l3 h
    rw [wp_X2_bar_2] at h
    refine q_iload_n g 3 3 rfl dX2_bar_2 ?_
    refine q_iload_n g 1 1 rfl dX2_bar_3 ?_
    refine q_icmp_ge g (40) 44 r_l3 r_l1 (by decide) dX2_bar_4 (fun b4 => ?_) (fun b4 => ?_)
    · replace h := h.1 b4
      refine q_lv (lv' := []) [] rfl ?_
      exact s_X2_bar_44 g hR hX2 aX2_tried aX2_triedLeave aX2_numbers aX2_weights aX2_weightsAhead aX2_grains aX2_placeFrom aX2_first n_limit n_size n_parts n_wanted n_found n_tried r_n_tried Q hF n_barred r_n_barred h
    replace h := h.2 b4
    refine q_iload_n g 3 3 rfl dX2_bar_7 ?_
    refine q_iconst g (5) dX2_bar_8 ?_
    refine q_icmp_ge g (35) 44 r_l3 (r32_lit _ (by decide)) (by decide) dX2_bar_9 (fun b9 => ?_) (fun b9 => ?_)
    · replace h := h.1 b9
      refine q_lv (lv' := []) [] rfl ?_
      exact s_X2_bar_44 g hR hX2 aX2_tried aX2_triedLeave aX2_numbers aX2_weights aX2_weightsAhead aX2_grains aX2_placeFrom aX2_first n_limit n_size n_parts n_wanted n_found n_tried r_n_tried Q hF n_barred r_n_barred h
    replace h := h.2 b9
    refine q_iload_n g 2 2 rfl dX2_bar_12 ?_
    refine q_iload_n g 3 3 rfl dX2_bar_13 ?_
    refine q_ishr g dX2_bar_14 ?_
    refine q_iconst g (1) dX2_bar_15 ?_
    refine q_iand g dX2_bar_16 ?_
    refine q_if_ne g (21) 38 (r_land32 _ _) (by decide) dX2_bar_17 (fun b17 => ?_) (fun b17 => ?_)
    · replace h := h.1 b17
      exact s_X2_bar_38 g hR hX2 aX2_tried aX2_triedLeave aX2_numbers aX2_weights aX2_weightsAhead aX2_grains aX2_placeFrom aX2_first n_limit n_size n_parts n_wanted n_found n_tried r_n_tried Q hF (wp_X2_bar_2 Q n_tried n) (fun v0 v1 v2 v3 w0 w1 w2 w3 hh => ih v0 v1 v2 v3 w0 w1 w2 w3 hh) n_barred l1 l2 l3 r_n_barred r_l1 r_l2 r_l3 h
    replace h := h.2 b17
    refine q_aload_n g 0 0 rfl dX2_bar_20 ?_
    refine q_dup g rfl dX2_bar_21 ?_
    refine q_get (C := RX2) (T := TX2) (N := 14) g 56 inX2 0 8 rfl rfl (by decide) wF_X2_56 rfl dX2_bar_22 ?_
    refine q_aload_n g 0 0 rfl dX2_bar_25 ?_
    refine q_get (C := RX2) (T := TX2) (N := 14) g 11 inX2 0 0 rfl rfl (by decide) wF_X2_11 rfl dX2_bar_26 ?_
    refine q_iload_n g 3 3 rfl dX2_bar_29 ?_
    obtain ⟨c30, h⟩ := h
    obtain ⟨e30, h⟩ := h
    refine q_iald g 1 rfl c30 e30 (by decide) dX2_bar_30 ?_
    refine q_callS (lev := 1) (mc := 0) (ms := 0) (As := [.int (i32 (n_tried l3))]) g 113 (c_X4_bit X.l X.D X.cI X.cJ X.zt (n_tried l3) _ (r_n_tried _) h) (wr := [(hX2, .inr (2, [.ref aX2_tried, .ref aX2_triedLeave, .ref aX2_numbers, .ref aX2_weights, .ref aX2_weightsAhead, .ref aX2_grains, .ref aX2_placeFrom, .ref aX2_first, .long (i64 n_barred), .int (i32 n_limit), .int (i32 n_size), .long (i64 n_parts), .long (i64 n_wanted), .int (i32 n_found)])), (aX2_tried, aI X.cI 5 n_tried)]) [] [0, 1] rfl rfl rfl (by decide) (by decide) (by decide) wM_X2_113 wT_X4_bit wZ_X4 wC_X4_bit 1 rfl (by decide +kernel) (by rw [hR]; exact ⟨by show 1 + 1 ≤ 2; omega, by show 8 + (1 + 11) + 100 * 1 ≤ 100 * 2; omega⟩) (by rw [hR]; exact ⟨Nat.le_refl _, Nat.le_refl _⟩) (Nat.le_of_ble_eq_true rfl) rfl dX2_bar_31 (fun rv w1 hq => ?_)
    obtain ⟨x31, rfl, rfl, rx31, h⟩ := hq
    show Wat X 0 0 34 [(0, .ref hX2), (1, .int (i32 l1)), (2, .int (i32 l2)), (3, .int (i32 l3))] [.long (i64 x31), .long (i64 n_barred), .ref hX2] [(hX2, .inr (2, [.ref aX2_tried, .ref aX2_triedLeave, .ref aX2_numbers, .ref aX2_weights, .ref aX2_weightsAhead, .ref aX2_grains, .ref aX2_placeFrom, .ref aX2_first, .long (i64 n_barred), .int (i32 n_limit), .int (i32 n_size), .long (i64 n_parts), .long (i64 n_wanted), .int (i32 n_found)])), (aX2_tried, aI X.cI 5 n_tried)]
    refine q_lor g dX2_bar_34 ?_
    refine q_topl (r_lor64 _ _) (fun x35 ex35 rx35 => ?_)
    replace h := h x35 ex35
    refine q_put (C := RX2) (T := TX2) (N := 14) (ty := .long) (ws' := [(hX2, .inr (2, [.ref aX2_tried, .ref aX2_triedLeave, .ref aX2_numbers, .ref aX2_weights, .ref aX2_weightsAhead, .ref aX2_grains, .ref aX2_placeFrom, .ref aX2_first, .long (i64 x35), .int (i32 n_limit), .int (i32 n_size), .long (i64 n_parts), .long (i64 n_wanted), .int (i32 n_found)])), (aX2_tried, aI X.cI 5 n_tried)]) g 56 inX2 tyX2_ok nmX2 0 8 rfl rfl (by decide) wF_X2_56 rfl rfl rfl rfl (Nat.le_of_ble_eq_true rfl) rfl dX2_bar_35 ?_
    exact s_X2_bar_38 g hR hX2 aX2_tried aX2_triedLeave aX2_numbers aX2_weights aX2_weightsAhead aX2_grains aX2_placeFrom aX2_first n_limit n_size n_parts n_wanted n_found n_tried r_n_tried Q hF (wp_X2_bar_2 Q n_tried n) (fun v0 v1 v2 v3 w0 w1 w2 w3 hh => ih v0 v1 v2 v3 w0 w1 w2 w3 hh) x35 l1 l2 l3 rx35 r_l1 r_l2 r_l3 h
def wp_X2_bar (Q : Int → Prop) (n_tried : Int → Int) (n_barred : Int) (l1 : Int) (l2 : Int) : Prop := (∃ n0 : Nat, wp_X2_bar_2 Q n_tried n0 n_barred l1 l2 0)
set_option maxHeartbeats 4000000 in
set_option maxRecDepth 100000 in
theorem c_X2_bar (l : Launch) (D : va_G) (cI cJ : ClassId) (zt : Nat) (hX2 : Nat) (aX2_tried : Nat) (aX2_triedLeave : Nat) (aX2_numbers : Nat) (aX2_weights : Nat) (aX2_weightsAhead : Nat) (aX2_grains : Nat) (aX2_placeFrom : Nat) (aX2_first : Nat) (n_barred : Int) (n_limit : Int) (n_size : Int) (n_parts : Int) (n_wanted : Int) (n_found : Int) (n_tried : Int → Int) (l1 : Int) (l2 : Int) (Q : Int → Prop) (r_n_tried : rr32 n_tried) (r_n_barred : r64 n_barred) (r_l1 : r32 l1) (r_l2 : r32 l2) (h : wp_X2_bar Q n_tried n_barred l1 l2) : Ct l D cI cJ zt yX2_bar cX2_bar 4 none 2 0 0 [.ref hX2, .int (i32 l1), .int (i32 l2)] [(hX2, .inr (2, [.ref aX2_tried, .ref aX2_triedLeave, .ref aX2_numbers, .ref aX2_weights, .ref aX2_weightsAhead, .ref aX2_grains, .ref aX2_placeFrom, .ref aX2_first, .long (i64 n_barred), .int (i32 n_limit), .int (i32 n_size), .long (i64 n_parts), .long (i64 n_wanted), .int (i32 n_found)])), (aX2_tried, aI cI 5 n_tried)] (po_X2_bar cI cJ hX2 aX2_tried aX2_triedLeave aX2_numbers aX2_weights aX2_weightsAhead aX2_grains aX2_placeFrom aX2_first n_limit n_size n_parts n_wanted n_found n_tried Q) := by
  refine ct_of (by decide +kernel) (Nat.le_of_ble_eq_true rfl) (fun X hl hDD hcI hcJ hzt hR hF hnm g => ?_)
  subst hl; subst hDD; subst hcI; subst hcJ; subst hzt
  show Wat X 0 0 0 [(0, .ref hX2), (1, .int (i32 l1)), (2, .int (i32 l2))] [] [(hX2, .inr (2, [.ref aX2_tried, .ref aX2_triedLeave, .ref aX2_numbers, .ref aX2_weights, .ref aX2_weightsAhead, .ref aX2_grains, .ref aX2_placeFrom, .ref aX2_first, .long (i64 n_barred), .int (i32 n_limit), .int (i32 n_size), .long (i64 n_parts), .long (i64 n_wanted), .int (i32 n_found)])), (aX2_tried, aI X.cI 5 n_tried)]
  replace g : Gd X cX2_bar RX2 none 4 := g
  rw [wp_X2_bar] at h
  refine q_iconst g (0) dX2_bar_0 ?_
  refine q_istore_n (lv' := [(3, .int (i32 0)), (0, .ref hX2), (1, .int (i32 l1)), (2, .int (i32 l2))]) g 3 3 rfl (by decide) rfl dX2_bar_1 ?_
  refine q_lv (lv' := [(0, .ref hX2), (1, .int (i32 l1)), (2, .int (i32 l2)), (3, .int (i32 0))]) [1, 2, 3, 0] rfl ?_
  obtain ⟨n0, h⟩ := h
  exact s_X2_bar_2 g hR hX2 aX2_tried aX2_triedLeave aX2_numbers aX2_weights aX2_weightsAhead aX2_grains aX2_placeFrom aX2_first n_limit n_size n_parts n_wanted n_found n_tried r_n_tried Q hF n0 n_barred l1 l2 0 r_n_barred r_l1 r_l2 (r32_lit _ (by decide)) h
theorem dX2_canMake_0 : decode cX2_canMake 0 = .ok (.iload_n 1, 1) := by decide +kernel
theorem dX2_canMake_1 : decode cX2_canMake 1 = .ok (.iload_n 2, 1) := by decide +kernel
theorem dX2_canMake_2 : decode cX2_canMake 2 = .ok (.iadd, 1) := by decide +kernel
theorem dX2_canMake_3 : decode cX2_canMake 3 = .ok (.aload_n 0, 1) := by decide +kernel
theorem dX2_canMake_4 : decode cX2_canMake 4 = .ok (.getfield 49, 3) := by decide +kernel
theorem dX2_canMake_7 : decode cX2_canMake 7 = .ok (.invokestatic 39, 3) := by decide +kernel
theorem dX2_canMake_10 : decode cX2_canMake 10 = .ok (.istore 5, 2) := by decide +kernel
theorem dX2_canMake_12 : decode cX2_canMake 12 = .ok (.aload_n 0, 1) := by decide +kernel
theorem dX2_canMake_13 : decode cX2_canMake 13 = .ok (.getfield 27, 3) := by decide +kernel
theorem dX2_canMake_16 : decode cX2_canMake 16 = .ok (.iload 5, 2) := by decide +kernel
theorem dX2_canMake_18 : decode cX2_canMake 18 = .ok (.laload, 1) := by decide +kernel
theorem dX2_canMake_19 : decode cX2_canMake 19 = .ok (.aload_n 0, 1) := by decide +kernel
theorem dX2_canMake_20 : decode cX2_canMake 20 = .ok (.getfield 27, 3) := by decide +kernel
theorem dX2_canMake_23 : decode cX2_canMake 23 = .ok (.iload_n 1, 1) := by decide +kernel
theorem dX2_canMake_24 : decode cX2_canMake 24 = .ok (.laload, 1) := by decide +kernel
theorem dX2_canMake_25 : decode cX2_canMake 25 = .ok (.lsub, 1) := by decide +kernel
theorem dX2_canMake_26 : decode cX2_canMake 26 = .ok (.lload_n 3, 1) := by decide +kernel
theorem dX2_canMake_27 : decode cX2_canMake 27 = .ok (.lcmp, 1) := by decide +kernel
theorem dX2_canMake_28 : decode cX2_canMake 28 = .ok (.ifCond .lt 20, 3) := by decide +kernel
theorem dX2_canMake_31 : decode cX2_canMake 31 = .ok (.lload_n 3, 1) := by decide +kernel
theorem dX2_canMake_32 : decode cX2_canMake 32 = .ok (.aload_n 0, 1) := by decide +kernel
theorem dX2_canMake_33 : decode cX2_canMake 33 = .ok (.getfield 30, 3) := by decide +kernel
theorem dX2_canMake_36 : decode cX2_canMake 36 = .ok (.iload_n 1, 1) := by decide +kernel
theorem dX2_canMake_37 : decode cX2_canMake 37 = .ok (.laload, 1) := by decide +kernel
theorem dX2_canMake_38 : decode cX2_canMake 38 = .ok (.lrem, 1) := by decide +kernel
theorem dX2_canMake_39 : decode cX2_canMake 39 = .ok (.lconst 0, 1) := by decide +kernel
theorem dX2_canMake_40 : decode cX2_canMake 40 = .ok (.lcmp, 1) := by decide +kernel
theorem dX2_canMake_41 : decode cX2_canMake 41 = .ok (.ifCond .ne 7, 3) := by decide +kernel
theorem dX2_canMake_44 : decode cX2_canMake 44 = .ok (.iconst 1, 1) := by decide +kernel
theorem dX2_canMake_45 : decode cX2_canMake 45 = .ok (.goto 4, 3) := by decide +kernel
theorem dX2_canMake_48 : decode cX2_canMake 48 = .ok (.iconst 0, 1) := by decide +kernel
theorem dX2_canMake_49 : decode cX2_canMake 49 = .ok (.ireturn, 1) := by decide +kernel
abbrev po_X2_canMake (cI cJ : ClassId) (hX2 : Nat) (aX2_tried : Nat) (aX2_triedLeave : Nat) (aX2_numbers : Nat) (aX2_weights : Nat) (aX2_weightsAhead : Nat) (aX2_grains : Nat) (aX2_placeFrom : Nat) (aX2_first : Nat) (n_barred : Int) (n_limit : Int) (n_size : Int) (n_parts : Int) (n_wanted : Int) (n_found : Int) (n_weightsAhead : Int → Int) (n_grains : Int → Int) (Q : Int → Prop) : Option Value → va_W → Prop := fun rv w1 => ∃ (r0 : Int), rv = some (.int (i32 r0)) ∧ w1 = [(hX2, .inr (2, [.ref aX2_tried, .ref aX2_triedLeave, .ref aX2_numbers, .ref aX2_weights, .ref aX2_weightsAhead, .ref aX2_grains, .ref aX2_placeFrom, .ref aX2_first, .long (i64 n_barred), .int (i32 n_limit), .int (i32 n_size), .long (i64 n_parts), .long (i64 n_wanted), .int (i32 n_found)])), (aX2_weightsAhead, aL cJ 61 n_weightsAhead), (aX2_grains, aL cJ 61 n_grains)] ∧ r32 r0 ∧ Q r0
def wp_X2_canMake_49 (Q : Int → Prop) (n_weightsAhead : Int → Int) (n_grains : Int → Int) (n_size : Int) (k0 : Int) : Prop := ((k0 = 0 ∨ k0 = 1) ∧ Q k0)
set_option maxHeartbeats 4000000 in
set_option maxRecDepth 100000 in
theorem s_X2_canMake_49 {X : Cx} (g : Gd X cX2_canMake RX2 (some .boolean) 6) (hR : X.R = rmL 2 0 0) (hX2 : Nat) (aX2_tried : Nat) (aX2_triedLeave : Nat) (aX2_numbers : Nat) (aX2_weights : Nat) (aX2_weightsAhead : Nat) (aX2_grains : Nat) (aX2_placeFrom : Nat) (aX2_first : Nat) (n_barred : Int) (n_limit : Int) (n_parts : Int) (n_wanted : Int) (n_found : Int) (n_weightsAhead : Int → Int) (n_grains : Int → Int) (n_size : Int) (r_n_weightsAhead : rr64 n_weightsAhead) (r_n_grains : rr64 n_grains) (r_n_size : r32 n_size) (Q : Int → Prop) (hF : FQ X 0 0 (po_X2_canMake X.cI X.cJ hX2 aX2_tried aX2_triedLeave aX2_numbers aX2_weights aX2_weightsAhead aX2_grains aX2_placeFrom aX2_first n_barred n_limit n_size n_parts n_wanted n_found n_weightsAhead n_grains Q)) : ∀ (k0 : Int), r32 k0 → wp_X2_canMake_49 Q n_weightsAhead n_grains n_size k0 → Wat X 0 0 49 [] [.int (i32 k0)] [(hX2, .inr (2, [.ref aX2_tried, .ref aX2_triedLeave, .ref aX2_numbers, .ref aX2_weights, .ref aX2_weightsAhead, .ref aX2_grains, .ref aX2_placeFrom, .ref aX2_first, .long (i64 n_barred), .int (i32 n_limit), .int (i32 n_size), .long (i64 n_parts), .long (i64 n_wanted), .int (i32 n_found)])), (aX2_weightsAhead, aL X.cJ 61 n_weightsAhead), (aX2_grains, aL X.cJ 61 n_grains)] := by
  intro k0 r_k0 h
  rw [wp_X2_canMake_49] at h
  obtain ⟨z49, h⟩ := h
  exact q_zret g hF z49 ⟨k0, rfl, rfl, r_k0, h⟩ dX2_canMake_49
def wp_X2_canMake_48 (Q : Int → Prop) (n_weightsAhead : Int → Int) (n_grains : Int → Int) (n_size : Int) : Prop := wp_X2_canMake_49 Q n_weightsAhead n_grains n_size 0
set_option maxHeartbeats 4000000 in
set_option maxRecDepth 100000 in
theorem s_X2_canMake_48 {X : Cx} (g : Gd X cX2_canMake RX2 (some .boolean) 6) (hR : X.R = rmL 2 0 0) (hX2 : Nat) (aX2_tried : Nat) (aX2_triedLeave : Nat) (aX2_numbers : Nat) (aX2_weights : Nat) (aX2_weightsAhead : Nat) (aX2_grains : Nat) (aX2_placeFrom : Nat) (aX2_first : Nat) (n_barred : Int) (n_limit : Int) (n_parts : Int) (n_wanted : Int) (n_found : Int) (n_weightsAhead : Int → Int) (n_grains : Int → Int) (n_size : Int) (r_n_weightsAhead : rr64 n_weightsAhead) (r_n_grains : rr64 n_grains) (r_n_size : r32 n_size) (Q : Int → Prop) (hF : FQ X 0 0 (po_X2_canMake X.cI X.cJ hX2 aX2_tried aX2_triedLeave aX2_numbers aX2_weights aX2_weightsAhead aX2_grains aX2_placeFrom aX2_first n_barred n_limit n_size n_parts n_wanted n_found n_weightsAhead n_grains Q)) : wp_X2_canMake_48 Q n_weightsAhead n_grains n_size → Wat X 0 0 48 [] [] [(hX2, .inr (2, [.ref aX2_tried, .ref aX2_triedLeave, .ref aX2_numbers, .ref aX2_weights, .ref aX2_weightsAhead, .ref aX2_grains, .ref aX2_placeFrom, .ref aX2_first, .long (i64 n_barred), .int (i32 n_limit), .int (i32 n_size), .long (i64 n_parts), .long (i64 n_wanted), .int (i32 n_found)])), (aX2_weightsAhead, aL X.cJ 61 n_weightsAhead), (aX2_grains, aL X.cJ 61 n_grains)] := by
  intro h
  rw [wp_X2_canMake_48] at h
  refine q_iconst g (0) dX2_canMake_48 ?_
  exact s_X2_canMake_49 g hR hX2 aX2_tried aX2_triedLeave aX2_numbers aX2_weights aX2_weightsAhead aX2_grains aX2_placeFrom aX2_first n_barred n_limit n_parts n_wanted n_found n_weightsAhead n_grains n_size r_n_weightsAhead r_n_grains r_n_size Q hF 0 (r32_lit _ (by decide)) h
def wp_X2_canMake (Q : Int → Prop) (n_weightsAhead : Int → Int) (n_grains : Int → Int) (n_size : Int) (l1 : Int) (l2 : Int) (l3 : Int) : Prop := (r32 (l1 + l2) ∧ ∀ x10 : Int, x10 = (min (l1 + l2) n_size) → 0 ≤ x10 ∧ x10 < 61 ∧ 0 ≤ l1 ∧ l1 < 61 ∧ r64 ((n_weightsAhead x10) - (n_weightsAhead l1)) ∧ ((((n_weightsAhead x10) - (n_weightsAhead l1)) < l3 → wp_X2_canMake_48 Q n_weightsAhead n_grains n_size) ∧
  (¬ (((n_weightsAhead x10) - (n_weightsAhead l1)) < l3) → (0 ≤ l1 ∧ l1 < 61 ∧ 0 < (n_grains l1) ∧ ((¬ (l3.tmod (n_grains l1)) = 0 → wp_X2_canMake_48 Q n_weightsAhead n_grains n_size) ∧
  ((l3.tmod (n_grains l1)) = 0 → wp_X2_canMake_49 Q n_weightsAhead n_grains n_size 1))))))
set_option maxHeartbeats 4000000 in
set_option maxRecDepth 100000 in
theorem c_X2_canMake (l : Launch) (D : va_G) (cI cJ : ClassId) (zt : Nat) (hX2 : Nat) (aX2_tried : Nat) (aX2_triedLeave : Nat) (aX2_numbers : Nat) (aX2_weights : Nat) (aX2_weightsAhead : Nat) (aX2_grains : Nat) (aX2_placeFrom : Nat) (aX2_first : Nat) (n_barred : Int) (n_limit : Int) (n_size : Int) (n_parts : Int) (n_wanted : Int) (n_found : Int) (n_weightsAhead : Int → Int) (n_grains : Int → Int) (l1 : Int) (l2 : Int) (l3 : Int) (Q : Int → Prop) (r_n_weightsAhead : rr64 n_weightsAhead) (r_n_grains : rr64 n_grains) (r_n_size : r32 n_size) (r_l1 : r32 l1) (r_l2 : r32 l2) (r_l3 : r64 l3) (h : wp_X2_canMake Q n_weightsAhead n_grains n_size l1 l2 l3) : Ct l D cI cJ zt yX2_canMake cX2_canMake 6 (some .boolean) 2 0 0 [.ref hX2, .int (i32 l1), .int (i32 l2), .long (i64 l3)] [(hX2, .inr (2, [.ref aX2_tried, .ref aX2_triedLeave, .ref aX2_numbers, .ref aX2_weights, .ref aX2_weightsAhead, .ref aX2_grains, .ref aX2_placeFrom, .ref aX2_first, .long (i64 n_barred), .int (i32 n_limit), .int (i32 n_size), .long (i64 n_parts), .long (i64 n_wanted), .int (i32 n_found)])), (aX2_weightsAhead, aL cJ 61 n_weightsAhead), (aX2_grains, aL cJ 61 n_grains)] (po_X2_canMake cI cJ hX2 aX2_tried aX2_triedLeave aX2_numbers aX2_weights aX2_weightsAhead aX2_grains aX2_placeFrom aX2_first n_barred n_limit n_size n_parts n_wanted n_found n_weightsAhead n_grains Q) := by
  refine ct_of (by decide +kernel) (Nat.le_of_ble_eq_true rfl) (fun X hl hDD hcI hcJ hzt hR hF hnm g => ?_)
  subst hl; subst hDD; subst hcI; subst hcJ; subst hzt
  show Wat X 0 0 0 [(0, .ref hX2), (1, .int (i32 l1)), (2, .int (i32 l2)), (3, .long (i64 l3))] [] [(hX2, .inr (2, [.ref aX2_tried, .ref aX2_triedLeave, .ref aX2_numbers, .ref aX2_weights, .ref aX2_weightsAhead, .ref aX2_grains, .ref aX2_placeFrom, .ref aX2_first, .long (i64 n_barred), .int (i32 n_limit), .int (i32 n_size), .long (i64 n_parts), .long (i64 n_wanted), .int (i32 n_found)])), (aX2_weightsAhead, aL X.cJ 61 n_weightsAhead), (aX2_grains, aL X.cJ 61 n_grains)]
  replace g : Gd X cX2_canMake RX2 (some .boolean) 6 := g
  rw [wp_X2_canMake] at h
  refine q_iload_n g 1 1 rfl dX2_canMake_0 ?_
  refine q_iload_n g 2 2 rfl dX2_canMake_1 ?_
  obtain ⟨c2, h⟩ := h
  refine q_iadd g dX2_canMake_2 ?_
  refine q_aload_n g 0 0 rfl dX2_canMake_3 ?_
  refine q_get (C := RX2) (T := TX2) (N := 14) g 49 inX2 0 10 rfl rfl (by decide) wF_X2_49 rfl dX2_canMake_4 ?_
  refine q_mminI g 39 c2 r_n_size wM_X2_39 wT_J9_min_7cf53 wZ_J9 wC_J9_min_7cf53 (by rw [hR]; exact ⟨by show 1 ≤ 2; omega, by show 100 ≤ 100 * 2; omega, Nat.le_refl _, Nat.le_refl _⟩) (Nat.le_of_ble_eq_true rfl) dX2_canMake_7 ?_
  refine q_topi (r32_min c2 r_n_size) (fun x10 ex10 rx10 => ?_)
  replace h := h x10 ex10
  refine q_istore (lv' := [(5, .int (i32 x10)), (0, .ref hX2), (1, .int (i32 l1)), (2, .int (i32 l2)), (3, .long (i64 l3))]) g 5   (by decide) rfl dX2_canMake_10 ?_
  refine q_aload_n g 0 1 rfl dX2_canMake_12 ?_
  refine q_get (C := RX2) (T := TX2) (N := 14) g 27 inX2 0 4 rfl rfl (by decide) wF_X2_27 rfl dX2_canMake_13 ?_
  refine q_iload g 5 0 rfl dX2_canMake_16 ?_
  obtain ⟨c18, h⟩ := h
  obtain ⟨e18, h⟩ := h
  refine q_lald g 1 rfl c18 e18 (by decide) dX2_canMake_18 ?_
  refine q_aload_n g 0 1 rfl dX2_canMake_19 ?_
  refine q_get (C := RX2) (T := TX2) (N := 14) g 27 inX2 0 4 rfl rfl (by decide) wF_X2_27 rfl dX2_canMake_20 ?_
  refine q_iload_n g 1 2 rfl dX2_canMake_23 ?_
  obtain ⟨c24, h⟩ := h
  obtain ⟨e24, h⟩ := h
  refine q_lald g 1 rfl c24 e24 (by decide) dX2_canMake_24 ?_
  obtain ⟨c25, h⟩ := h
  refine q_lsub g dX2_canMake_25 ?_
  refine q_lload_n g 3 4 rfl dX2_canMake_26 ?_
  refine q_lcmp_lt g (20) 48 c25 r_l3 (by decide) dX2_canMake_27 dX2_canMake_28 (fun b27 => ?_) (fun b27 => ?_)
  · replace h := h.1 b27
    refine q_lv (lv' := []) [] rfl ?_
    exact s_X2_canMake_48 g hR hX2 aX2_tried aX2_triedLeave aX2_numbers aX2_weights aX2_weightsAhead aX2_grains aX2_placeFrom aX2_first n_barred n_limit n_parts n_wanted n_found n_weightsAhead n_grains n_size r_n_weightsAhead r_n_grains r_n_size Q hF h
  replace h := h.2 b27
  refine q_lload_n g 3 4 rfl dX2_canMake_31 ?_
  refine q_aload_n g 0 1 rfl dX2_canMake_32 ?_
  refine q_get (C := RX2) (T := TX2) (N := 14) g 30 inX2 0 5 rfl rfl (by decide) wF_X2_30 rfl dX2_canMake_33 ?_
  refine q_iload_n g 1 2 rfl dX2_canMake_36 ?_
  obtain ⟨c37, h⟩ := h
  obtain ⟨e37, h⟩ := h
  refine q_lald g 2 rfl c37 e37 (by decide) dX2_canMake_37 ?_
  obtain ⟨c38, h⟩ := h
  refine q_lrem g r_l3 (r_n_grains _) (ne_of_pos c38) dX2_canMake_38 ?_
  refine q_lconst g 0 0 rfl dX2_canMake_39 ?_
  refine q_lcmp_ne g (7) 48 (r64_tmod r_l3 (r_n_grains _) (ne_of_pos c38)) (r64_lit _ (by decide)) (by decide) dX2_canMake_40 dX2_canMake_41 (fun b40 => ?_) (fun b40 => ?_)
  · replace h := h.1 b40
    refine q_lv (lv' := []) [] rfl ?_
    exact s_X2_canMake_48 g hR hX2 aX2_tried aX2_triedLeave aX2_numbers aX2_weights aX2_weightsAhead aX2_grains aX2_placeFrom aX2_first n_barred n_limit n_parts n_wanted n_found n_weightsAhead n_grains n_size r_n_weightsAhead r_n_grains r_n_size Q hF h
  replace h := h.2 b40
  refine q_iconst g (1) dX2_canMake_44 ?_
  refine q_goto g (4) 49 (by decide) dX2_canMake_45 ?_
  refine q_lv (lv' := []) [] rfl ?_
  exact s_X2_canMake_49 g hR hX2 aX2_tried aX2_triedLeave aX2_numbers aX2_weights aX2_weightsAhead aX2_grains aX2_placeFrom aX2_first n_barred n_limit n_parts n_wanted n_found n_weightsAhead n_grains n_size r_n_weightsAhead r_n_grains r_n_size Q hF 1 (r32_lit _ (by decide)) h
theorem dX2_firstNotAbove_0 : decode cX2_firstNotAbove 0 = .ok (.aload_n 0, 1) := by decide +kernel
theorem dX2_firstNotAbove_1 : decode cX2_firstNotAbove 1 = .ok (.getfield 67, 3) := by decide +kernel
theorem dX2_firstNotAbove_4 : decode cX2_firstNotAbove 4 = .ok (.lload_n 1, 1) := by decide +kernel
theorem dX2_firstNotAbove_5 : decode cX2_firstNotAbove 5 = .ok (.invokestatic 141, 3) := by decide +kernel
theorem dX2_firstNotAbove_8 : decode cX2_firstNotAbove 8 = .ok (.lstore_n 3, 1) := by decide +kernel
theorem dX2_firstNotAbove_9 : decode cX2_firstNotAbove 9 = .ok (.lload_n 3, 1) := by decide +kernel
theorem dX2_firstNotAbove_10 : decode cX2_firstNotAbove 10 = .ok (.lconst 0, 1) := by decide +kernel
theorem dX2_firstNotAbove_11 : decode cX2_firstNotAbove 11 = .ok (.lcmp, 1) := by decide +kernel
theorem dX2_firstNotAbove_12 : decode cX2_firstNotAbove 12 = .ok (.ifCond .lt 34, 3) := by decide +kernel
theorem dX2_firstNotAbove_15 : decode cX2_firstNotAbove 15 = .ok (.lload_n 3, 1) := by decide +kernel
theorem dX2_firstNotAbove_16 : decode cX2_firstNotAbove 16 = .ok (.aload_n 0, 1) := by decide +kernel
theorem dX2_firstNotAbove_17 : decode cX2_firstNotAbove 17 = .ok (.getfield 45, 3) := by decide +kernel
theorem dX2_firstNotAbove_20 : decode cX2_firstNotAbove 20 = .ok (.i2l, 1) := by decide +kernel
theorem dX2_firstNotAbove_21 : decode cX2_firstNotAbove 21 = .ok (.lcmp, 1) := by decide +kernel
theorem dX2_firstNotAbove_22 : decode cX2_firstNotAbove 22 = .ok (.ifCond .gt 24, 3) := by decide +kernel
theorem dX2_firstNotAbove_25 : decode cX2_firstNotAbove 25 = .ok (.lload_n 3, 1) := by decide +kernel
theorem dX2_firstNotAbove_26 : decode cX2_firstNotAbove 26 = .ok (.aload_n 0, 1) := by decide +kernel
theorem dX2_firstNotAbove_27 : decode cX2_firstNotAbove 27 = .ok (.getfield 33, 3) := by decide +kernel
theorem dX2_firstNotAbove_30 : decode cX2_firstNotAbove 30 = .ok (.arraylength, 1) := by decide +kernel
theorem dX2_firstNotAbove_31 : decode cX2_firstNotAbove 31 = .ok (.i2l, 1) := by decide +kernel
theorem dX2_firstNotAbove_32 : decode cX2_firstNotAbove 32 = .ok (.lcmp, 1) := by decide +kernel
theorem dX2_firstNotAbove_33 : decode cX2_firstNotAbove 33 = .ok (.ifCond .ge 13, 3) := by decide +kernel
theorem dX2_firstNotAbove_36 : decode cX2_firstNotAbove 36 = .ok (.aload_n 0, 1) := by decide +kernel
theorem dX2_firstNotAbove_37 : decode cX2_firstNotAbove 37 = .ok (.getfield 33, 3) := by decide +kernel
theorem dX2_firstNotAbove_40 : decode cX2_firstNotAbove 40 = .ok (.lload_n 3, 1) := by decide +kernel
theorem dX2_firstNotAbove_41 : decode cX2_firstNotAbove 41 = .ok (.l2i, 1) := by decide +kernel
theorem dX2_firstNotAbove_42 : decode cX2_firstNotAbove 42 = .ok (.iaload, 1) := by decide +kernel
theorem dX2_firstNotAbove_43 : decode cX2_firstNotAbove 43 = .ok (.goto 7, 3) := by decide +kernel
theorem dX2_firstNotAbove_46 : decode cX2_firstNotAbove 46 = .ok (.aload_n 0, 1) := by decide +kernel
theorem dX2_firstNotAbove_47 : decode cX2_firstNotAbove 47 = .ok (.getfield 49, 3) := by decide +kernel
theorem dX2_firstNotAbove_50 : decode cX2_firstNotAbove 50 = .ok (.ireturn, 1) := by decide +kernel
abbrev po_X2_firstNotAbove (cI cJ : ClassId) (hX2 : Nat) (aX2_tried : Nat) (aX2_triedLeave : Nat) (aX2_numbers : Nat) (aX2_weights : Nat) (aX2_weightsAhead : Nat) (aX2_grains : Nat) (aX2_placeFrom : Nat) (aX2_first : Nat) (n_barred : Int) (n_limit : Int) (n_size : Int) (n_parts : Int) (n_wanted : Int) (n_found : Int) (n_placeFrom : Int → Int) (Q : Int → Prop) : Option Value → va_W → Prop := fun rv w1 => ∃ (r0 : Int), rv = some (.int (i32 r0)) ∧ w1 = [(hX2, .inr (2, [.ref aX2_tried, .ref aX2_triedLeave, .ref aX2_numbers, .ref aX2_weights, .ref aX2_weightsAhead, .ref aX2_grains, .ref aX2_placeFrom, .ref aX2_first, .long (i64 n_barred), .int (i32 n_limit), .int (i32 n_size), .long (i64 n_parts), .long (i64 n_wanted), .int (i32 n_found)])), (aX2_placeFrom, aI cI 61 n_placeFrom)] ∧ r32 r0 ∧ Q r0
def wp_X2_firstNotAbove_50 (Q : Int → Prop) (n_placeFrom : Int → Int) (n_limit : Int) (n_size : Int) (n_parts : Int) (k0 : Int) : Prop := Q k0
set_option maxHeartbeats 4000000 in
set_option maxRecDepth 100000 in
theorem s_X2_firstNotAbove_50 {X : Cx} (g : Gd X cX2_firstNotAbove RX2 (some .int) 5) (hR : X.R = rmL 2 0 0) (hX2 : Nat) (aX2_tried : Nat) (aX2_triedLeave : Nat) (aX2_numbers : Nat) (aX2_weights : Nat) (aX2_weightsAhead : Nat) (aX2_grains : Nat) (aX2_placeFrom : Nat) (aX2_first : Nat) (n_barred : Int) (n_wanted : Int) (n_found : Int) (n_placeFrom : Int → Int) (n_limit : Int) (n_size : Int) (n_parts : Int) (r_n_placeFrom : rr32 n_placeFrom) (r_n_limit : r32 n_limit) (r_n_size : r32 n_size) (r_n_parts : r64 n_parts) (Q : Int → Prop) (hF : FQ X 0 0 (po_X2_firstNotAbove X.cI X.cJ hX2 aX2_tried aX2_triedLeave aX2_numbers aX2_weights aX2_weightsAhead aX2_grains aX2_placeFrom aX2_first n_barred n_limit n_size n_parts n_wanted n_found n_placeFrom Q)) : ∀ (k0 : Int), r32 k0 → wp_X2_firstNotAbove_50 Q n_placeFrom n_limit n_size n_parts k0 → Wat X 0 0 50 [] [.int (i32 k0)] [(hX2, .inr (2, [.ref aX2_tried, .ref aX2_triedLeave, .ref aX2_numbers, .ref aX2_weights, .ref aX2_weightsAhead, .ref aX2_grains, .ref aX2_placeFrom, .ref aX2_first, .long (i64 n_barred), .int (i32 n_limit), .int (i32 n_size), .long (i64 n_parts), .long (i64 n_wanted), .int (i32 n_found)])), (aX2_placeFrom, aI X.cI 61 n_placeFrom)] := by
  intro k0 r_k0 h
  rw [wp_X2_firstNotAbove_50] at h
  exact q_iret g hF ⟨k0, rfl, rfl, r_k0, h⟩ dX2_firstNotAbove_50
def wp_X2_firstNotAbove_46 (Q : Int → Prop) (n_placeFrom : Int → Int) (n_limit : Int) (n_size : Int) (n_parts : Int) : Prop := wp_X2_firstNotAbove_50 Q n_placeFrom n_limit n_size n_parts n_size
set_option maxHeartbeats 4000000 in
set_option maxRecDepth 100000 in
theorem s_X2_firstNotAbove_46 {X : Cx} (g : Gd X cX2_firstNotAbove RX2 (some .int) 5) (hR : X.R = rmL 2 0 0) (hX2 : Nat) (aX2_tried : Nat) (aX2_triedLeave : Nat) (aX2_numbers : Nat) (aX2_weights : Nat) (aX2_weightsAhead : Nat) (aX2_grains : Nat) (aX2_placeFrom : Nat) (aX2_first : Nat) (n_barred : Int) (n_wanted : Int) (n_found : Int) (n_placeFrom : Int → Int) (n_limit : Int) (n_size : Int) (n_parts : Int) (r_n_placeFrom : rr32 n_placeFrom) (r_n_limit : r32 n_limit) (r_n_size : r32 n_size) (r_n_parts : r64 n_parts) (Q : Int → Prop) (hF : FQ X 0 0 (po_X2_firstNotAbove X.cI X.cJ hX2 aX2_tried aX2_triedLeave aX2_numbers aX2_weights aX2_weightsAhead aX2_grains aX2_placeFrom aX2_first n_barred n_limit n_size n_parts n_wanted n_found n_placeFrom Q)) : wp_X2_firstNotAbove_46 Q n_placeFrom n_limit n_size n_parts → Wat X 0 0 46 [(0, .ref hX2)] [] [(hX2, .inr (2, [.ref aX2_tried, .ref aX2_triedLeave, .ref aX2_numbers, .ref aX2_weights, .ref aX2_weightsAhead, .ref aX2_grains, .ref aX2_placeFrom, .ref aX2_first, .long (i64 n_barred), .int (i32 n_limit), .int (i32 n_size), .long (i64 n_parts), .long (i64 n_wanted), .int (i32 n_found)])), (aX2_placeFrom, aI X.cI 61 n_placeFrom)] := by
  intro h
  rw [wp_X2_firstNotAbove_46] at h
  refine q_aload_n g 0 0 rfl dX2_firstNotAbove_46 ?_
  refine q_get (C := RX2) (T := TX2) (N := 14) g 49 inX2 0 10 rfl rfl (by decide) wF_X2_49 rfl dX2_firstNotAbove_47 ?_
  refine q_lv (lv' := []) [] rfl ?_
  exact s_X2_firstNotAbove_50 g hR hX2 aX2_tried aX2_triedLeave aX2_numbers aX2_weights aX2_weightsAhead aX2_grains aX2_placeFrom aX2_first n_barred n_wanted n_found n_placeFrom n_limit n_size n_parts r_n_placeFrom r_n_limit r_n_size r_n_parts Q hF n_size r_n_size h
def wp_X2_firstNotAbove (Q : Int → Prop) (n_placeFrom : Int → Int) (n_limit : Int) (n_size : Int) (n_parts : Int) (l1 : Int) : Prop := wp_X7_roundedUp (fun (x5 : Int) => ((x5 < 0 → wp_X2_firstNotAbove_46 Q n_placeFrom n_limit n_size n_parts) ∧
  (¬ (x5 < 0) → ((n_limit < x5 → wp_X2_firstNotAbove_46 Q n_placeFrom n_limit n_size n_parts) ∧
  (¬ (n_limit < x5) → ((61 ≤ x5 → wp_X2_firstNotAbove_46 Q n_placeFrom n_limit n_size n_parts) ∧
  (¬ (61 ≤ x5) → (r32 x5 ∧ 0 ≤ x5 ∧ x5 < 61 ∧ wp_X2_firstNotAbove_50 Q n_placeFrom n_limit n_size n_parts (n_placeFrom x5))))))))) n_parts l1
set_option maxHeartbeats 4000000 in
set_option maxRecDepth 100000 in
theorem c_X2_firstNotAbove (l : Launch) (D : va_G) (cI cJ : ClassId) (zt : Nat) (hX2 : Nat) (aX2_tried : Nat) (aX2_triedLeave : Nat) (aX2_numbers : Nat) (aX2_weights : Nat) (aX2_weightsAhead : Nat) (aX2_grains : Nat) (aX2_placeFrom : Nat) (aX2_first : Nat) (n_barred : Int) (n_limit : Int) (n_size : Int) (n_parts : Int) (n_wanted : Int) (n_found : Int) (n_placeFrom : Int → Int) (l1 : Int) (Q : Int → Prop) (r_n_placeFrom : rr32 n_placeFrom) (r_n_limit : r32 n_limit) (r_n_size : r32 n_size) (r_n_parts : r64 n_parts) (r_l1 : r64 l1) (h : wp_X2_firstNotAbove Q n_placeFrom n_limit n_size n_parts l1) : Ct l D cI cJ zt yX2_firstNotAbove cX2_firstNotAbove 5 (some .int) 2 0 0 [.ref hX2, .long (i64 l1)] [(hX2, .inr (2, [.ref aX2_tried, .ref aX2_triedLeave, .ref aX2_numbers, .ref aX2_weights, .ref aX2_weightsAhead, .ref aX2_grains, .ref aX2_placeFrom, .ref aX2_first, .long (i64 n_barred), .int (i32 n_limit), .int (i32 n_size), .long (i64 n_parts), .long (i64 n_wanted), .int (i32 n_found)])), (aX2_placeFrom, aI cI 61 n_placeFrom)] (po_X2_firstNotAbove cI cJ hX2 aX2_tried aX2_triedLeave aX2_numbers aX2_weights aX2_weightsAhead aX2_grains aX2_placeFrom aX2_first n_barred n_limit n_size n_parts n_wanted n_found n_placeFrom Q) := by
  refine ct_of (by decide +kernel) (Nat.le_of_ble_eq_true rfl) (fun X hl hDD hcI hcJ hzt hR hF hnm g => ?_)
  subst hl; subst hDD; subst hcI; subst hcJ; subst hzt
  show Wat X 0 0 0 [(0, .ref hX2), (1, .long (i64 l1))] [] [(hX2, .inr (2, [.ref aX2_tried, .ref aX2_triedLeave, .ref aX2_numbers, .ref aX2_weights, .ref aX2_weightsAhead, .ref aX2_grains, .ref aX2_placeFrom, .ref aX2_first, .long (i64 n_barred), .int (i32 n_limit), .int (i32 n_size), .long (i64 n_parts), .long (i64 n_wanted), .int (i32 n_found)])), (aX2_placeFrom, aI X.cI 61 n_placeFrom)]
  replace g : Gd X cX2_firstNotAbove RX2 (some .int) 5 := g
  rw [wp_X2_firstNotAbove] at h
  refine q_aload_n g 0 0 rfl dX2_firstNotAbove_0 ?_
  refine q_get (C := RX2) (T := TX2) (N := 14) g 67 inX2 0 11 rfl rfl (by decide) wF_X2_67 rfl dX2_firstNotAbove_1 ?_
  refine q_lload_n g 1 1 rfl dX2_firstNotAbove_4 ?_
  refine q_callSN (lev := 1) (mc := 0) (ms := 0) (As := [.long (i64 n_parts), .long (i64 l1)]) (host := RX7) g 141 (c_X7_roundedUp X.l X.D X.cI X.cJ X.zt n_parts l1 _ r_n_parts r_l1 h) (wr := [(hX2, .inr (2, [.ref aX2_tried, .ref aX2_triedLeave, .ref aX2_numbers, .ref aX2_weights, .ref aX2_weightsAhead, .ref aX2_grains, .ref aX2_placeFrom, .ref aX2_first, .long (i64 n_barred), .int (i32 n_limit), .int (i32 n_size), .long (i64 n_parts), .long (i64 n_wanted), .int (i32 n_found)])), (aX2_placeFrom, aI X.cI 61 n_placeFrom)]) [] [0, 1] rfl rfl rfl (by decide) (by decide) (by decide) (List.mem_of_getElem? (i := 7) rfl) wT_X7_roundedUp wZ_X7 wC_X7_roundedUp 2 rfl (by decide +kernel) (by rw [hR]; exact ⟨by show 1 + 1 ≤ 2; omega, by show 8 + (4 + 11) + 100 * 1 ≤ 100 * 2; omega⟩) (by rw [hR]; exact ⟨Nat.le_refl _, Nat.le_refl _⟩) (Nat.le_of_ble_eq_true rfl) rfl dX2_firstNotAbove_5 (fun rv w1 hq => ?_)
  obtain ⟨x5, rfl, rfl, rx5, h⟩ := hq
  show Wat X 0 0 8 [(0, .ref hX2), (1, .long (i64 l1))] [.long (i64 x5)] [(hX2, .inr (2, [.ref aX2_tried, .ref aX2_triedLeave, .ref aX2_numbers, .ref aX2_weights, .ref aX2_weightsAhead, .ref aX2_grains, .ref aX2_placeFrom, .ref aX2_first, .long (i64 n_barred), .int (i32 n_limit), .int (i32 n_size), .long (i64 n_parts), .long (i64 n_wanted), .int (i32 n_found)])), (aX2_placeFrom, aI X.cI 61 n_placeFrom)]
  refine q_lstore_n (lv' := [(3, .long (i64 x5)), (0, .ref hX2), (1, .long (i64 l1))]) g 3 3 rfl (by decide) rfl dX2_firstNotAbove_8 ?_
  refine q_lload_n g 3 0 rfl dX2_firstNotAbove_9 ?_
  refine q_lconst g 0 0 rfl dX2_firstNotAbove_10 ?_
  refine q_lcmp_lt g (34) 46 rx5 (r64_lit _ (by decide)) (by decide) dX2_firstNotAbove_11 dX2_firstNotAbove_12 (fun b11 => ?_) (fun b11 => ?_)
  · replace h := h.1 b11
    refine q_lv (lv' := [(0, .ref hX2)]) [1] rfl ?_
    exact s_X2_firstNotAbove_46 g hR hX2 aX2_tried aX2_triedLeave aX2_numbers aX2_weights aX2_weightsAhead aX2_grains aX2_placeFrom aX2_first n_barred n_wanted n_found n_placeFrom n_limit n_size n_parts r_n_placeFrom r_n_limit r_n_size r_n_parts Q hF h
  replace h := h.2 b11
  refine q_lload_n g 3 0 rfl dX2_firstNotAbove_15 ?_
  refine q_aload_n g 0 1 rfl dX2_firstNotAbove_16 ?_
  refine q_get (C := RX2) (T := TX2) (N := 14) g 45 inX2 0 9 rfl rfl (by decide) wF_X2_45 rfl dX2_firstNotAbove_17 ?_
  refine q_i2l g r_n_limit dX2_firstNotAbove_20 ?_
  refine q_lcmp_gt g (24) 46 rx5 (r32_64 r_n_limit) (by decide) dX2_firstNotAbove_21 dX2_firstNotAbove_22 (fun b21 => ?_) (fun b21 => ?_)
  · replace h := h.1 b21
    refine q_lv (lv' := [(0, .ref hX2)]) [1] rfl ?_
    exact s_X2_firstNotAbove_46 g hR hX2 aX2_tried aX2_triedLeave aX2_numbers aX2_weights aX2_weightsAhead aX2_grains aX2_placeFrom aX2_first n_barred n_wanted n_found n_placeFrom n_limit n_size n_parts r_n_placeFrom r_n_limit r_n_size r_n_parts Q hF h
  replace h := h.2 b21
  refine q_lload_n g 3 0 rfl dX2_firstNotAbove_25 ?_
  refine q_aload_n g 0 1 rfl dX2_firstNotAbove_26 ?_
  refine q_get (C := RX2) (T := TX2) (N := 14) g 33 inX2 0 6 rfl rfl (by decide) wF_X2_33 rfl dX2_firstNotAbove_27 ?_
  refine q_alenI g 1 61 rfl rfl dX2_firstNotAbove_30 ?_
  refine q_i2l g (r32_lit _ (by decide)) dX2_firstNotAbove_31 ?_
  refine q_lcmp_ge g (13) 46 rx5 (r32_64 (r32_lit _ (by decide))) (by decide) dX2_firstNotAbove_32 dX2_firstNotAbove_33 (fun b32 => ?_) (fun b32 => ?_)
  · replace h := h.1 b32
    refine q_lv (lv' := [(0, .ref hX2)]) [1] rfl ?_
    exact s_X2_firstNotAbove_46 g hR hX2 aX2_tried aX2_triedLeave aX2_numbers aX2_weights aX2_weightsAhead aX2_grains aX2_placeFrom aX2_first n_barred n_wanted n_found n_placeFrom n_limit n_size n_parts r_n_placeFrom r_n_limit r_n_size r_n_parts Q hF h
  replace h := h.2 b32
  refine q_aload_n g 0 1 rfl dX2_firstNotAbove_36 ?_
  refine q_get (C := RX2) (T := TX2) (N := 14) g 33 inX2 0 6 rfl rfl (by decide) wF_X2_33 rfl dX2_firstNotAbove_37 ?_
  refine q_lload_n g 3 0 rfl dX2_firstNotAbove_40 ?_
  obtain ⟨c41, h⟩ := h
  refine q_l2i g dX2_firstNotAbove_41 ?_
  obtain ⟨c42, h⟩ := h
  obtain ⟨e42, h⟩ := h
  refine q_iald g 1 rfl c42 e42 (by decide) dX2_firstNotAbove_42 ?_
  refine q_goto g (7) 50 (by decide) dX2_firstNotAbove_43 ?_
  refine q_lv (lv' := []) [] rfl ?_
  exact s_X2_firstNotAbove_50 g hR hX2 aX2_tried aX2_triedLeave aX2_numbers aX2_weights aX2_weightsAhead aX2_grains aX2_placeFrom aX2_first n_barred n_wanted n_found n_placeFrom n_limit n_size n_parts r_n_placeFrom r_n_limit r_n_size r_n_parts Q hF (n_placeFrom x5) (r_n_placeFrom _) h
theorem dX2_keep_0 : decode cX2_keep 0 = .ok (.aload_n 0, 1) := by decide +kernel
theorem dX2_keep_1 : decode cX2_keep 1 = .ok (.getfield 73, 3) := by decide +kernel
theorem dX2_keep_4 : decode cX2_keep 4 = .ok (.ifCond .lt 29, 3) := by decide +kernel
theorem dX2_keep_7 : decode cX2_keep 7 = .ok (.aload_n 0, 1) := by decide +kernel
theorem dX2_keep_8 : decode cX2_keep 8 = .ok (.getfield 73, 3) := by decide +kernel
theorem dX2_keep_11 : decode cX2_keep 11 = .ok (.aload_n 1, 1) := by decide +kernel
theorem dX2_keep_12 : decode cX2_keep 12 = .ok (.arraylength, 1) := by decide +kernel
theorem dX2_keep_13 : decode cX2_keep 13 = .ok (.if_icmp .ge 20, 3) := by decide +kernel
theorem dX2_keep_16 : decode cX2_keep 16 = .ok (.aload_n 1, 1) := by decide +kernel
theorem dX2_keep_17 : decode cX2_keep 17 = .ok (.aload_n 0, 1) := by decide +kernel
theorem dX2_keep_18 : decode cX2_keep 18 = .ok (.getfield 73, 3) := by decide +kernel
theorem dX2_keep_21 : decode cX2_keep 21 = .ok (.lload_n 2, 1) := by decide +kernel
theorem dX2_keep_22 : decode cX2_keep 22 = .ok (.lastore, 1) := by decide +kernel
theorem dX2_keep_23 : decode cX2_keep 23 = .ok (.aload_n 0, 1) := by decide +kernel
theorem dX2_keep_24 : decode cX2_keep 24 = .ok (.dup, 1) := by decide +kernel
theorem dX2_keep_25 : decode cX2_keep 25 = .ok (.getfield 73, 3) := by decide +kernel
theorem dX2_keep_28 : decode cX2_keep 28 = .ok (.iconst 1, 1) := by decide +kernel
theorem dX2_keep_29 : decode cX2_keep 29 = .ok (.iadd, 1) := by decide +kernel
theorem dX2_keep_30 : decode cX2_keep 30 = .ok (.putfield 73, 3) := by decide +kernel
theorem dX2_keep_33 : decode cX2_keep 33 = .ok (.return_, 1) := by decide +kernel
abbrev po_X2_keep (cI cJ : ClassId) (hX2 : Nat) (aX2_tried : Nat) (aX2_triedLeave : Nat) (aX2_numbers : Nat) (aX2_weights : Nat) (aX2_weightsAhead : Nat) (aX2_grains : Nat) (aX2_placeFrom : Nat) (aX2_first : Nat) (n_barred : Int) (n_limit : Int) (n_size : Int) (n_parts : Int) (n_wanted : Int) (aP0_row : Nat) (zP0 : Nat) (Q : (Int → Int) → Int → Prop) : Option Value → va_W → Prop := fun rv w1 => ∃ (p0_row : Int → Int) (n_found : Int), rv = none ∧ w1 = [(hX2, .inr (2, [.ref aX2_tried, .ref aX2_triedLeave, .ref aX2_numbers, .ref aX2_weights, .ref aX2_weightsAhead, .ref aX2_grains, .ref aX2_placeFrom, .ref aX2_first, .long (i64 n_barred), .int (i32 n_limit), .int (i32 n_size), .long (i64 n_parts), .long (i64 n_wanted), .int (i32 n_found)])), (aP0_row, aL cJ zP0 p0_row)] ∧ rr64 p0_row ∧ r32 n_found ∧ Q p0_row n_found
def wp_X2_keep_33 (Q : (Int → Int) → Int → Prop) (zP0 : Nat) (p0_row : Int → Int) (n_found : Int) : Prop := Q p0_row n_found
set_option maxHeartbeats 4000000 in
set_option maxRecDepth 100000 in
theorem s_X2_keep_33 {X : Cx} (g : Gd X cX2_keep RX2 none 4) (hR : X.R = rmL 1 0 0) (hX2 : Nat) (aX2_tried : Nat) (aX2_triedLeave : Nat) (aX2_numbers : Nat) (aX2_weights : Nat) (aX2_weightsAhead : Nat) (aX2_grains : Nat) (aX2_placeFrom : Nat) (aX2_first : Nat) (n_barred : Int) (n_limit : Int) (n_size : Int) (n_parts : Int) (n_wanted : Int) (aP0_row : Nat) (zP0 : Nat) (hzP0 : zP0 < 2147483648) (Q : (Int → Int) → Int → Prop) (hF : FQ X 0 0 (po_X2_keep X.cI X.cJ hX2 aX2_tried aX2_triedLeave aX2_numbers aX2_weights aX2_weightsAhead aX2_grains aX2_placeFrom aX2_first n_barred n_limit n_size n_parts n_wanted aP0_row zP0 Q)) : ∀ (p0_row : Int → Int) (n_found : Int), rr64 p0_row → r32 n_found → wp_X2_keep_33 Q zP0 p0_row n_found → Wat X 0 0 33 [] [] [(hX2, .inr (2, [.ref aX2_tried, .ref aX2_triedLeave, .ref aX2_numbers, .ref aX2_weights, .ref aX2_weightsAhead, .ref aX2_grains, .ref aX2_placeFrom, .ref aX2_first, .long (i64 n_barred), .int (i32 n_limit), .int (i32 n_size), .long (i64 n_parts), .long (i64 n_wanted), .int (i32 n_found)])), (aP0_row, aL X.cJ zP0 p0_row)] := by
  intro p0_row n_found r_p0_row r_n_found h
  rw [wp_X2_keep_33] at h
  exact q_vret g hF ⟨p0_row, n_found, rfl, rfl, r_p0_row, r_n_found, h⟩ dX2_keep_33
def wp_X2_keep (Q : (Int → Int) → Int → Prop) (zP0 : Nat) (p0_row : Int → Int) (n_found : Int) (l2 : Int) : Prop := ((n_found < 0 → wp_X2_keep_33 Q zP0 p0_row n_found) ∧
  (¬ (n_found < 0) → (((zP0 : Int) ≤ n_found → wp_X2_keep_33 Q zP0 p0_row n_found) ∧
  (¬ ((zP0 : Int) ≤ n_found) → (0 ≤ n_found ∧ n_found < (zP0 : Int) ∧ r32 (n_found + 1) ∧ ∀ x30 : Int, x30 = (n_found + 1) → wp_X2_keep_33 Q zP0 (ups p0_row n_found l2) x30)))))
set_option maxHeartbeats 4000000 in
set_option maxRecDepth 100000 in
theorem c_X2_keep (l : Launch) (D : va_G) (cI cJ : ClassId) (zt : Nat) (hX2 : Nat) (aX2_tried : Nat) (aX2_triedLeave : Nat) (aX2_numbers : Nat) (aX2_weights : Nat) (aX2_weightsAhead : Nat) (aX2_grains : Nat) (aX2_placeFrom : Nat) (aX2_first : Nat) (n_barred : Int) (n_limit : Int) (n_size : Int) (n_parts : Int) (n_wanted : Int) (n_found : Int) (aP0_row : Nat) (zP0 : Nat) (p0_row : Int → Int) (l2 : Int) (Q : (Int → Int) → Int → Prop) (r_p0_row : rr64 p0_row) (r_n_found : r32 n_found) (r_l2 : r64 l2) (hzP0 : zP0 < 2147483648) (h : wp_X2_keep Q zP0 p0_row n_found l2) : Ct l D cI cJ zt yX2_keep cX2_keep 4 none 1 0 0 [.ref hX2, .ref aP0_row, .long (i64 l2)] [(hX2, .inr (2, [.ref aX2_tried, .ref aX2_triedLeave, .ref aX2_numbers, .ref aX2_weights, .ref aX2_weightsAhead, .ref aX2_grains, .ref aX2_placeFrom, .ref aX2_first, .long (i64 n_barred), .int (i32 n_limit), .int (i32 n_size), .long (i64 n_parts), .long (i64 n_wanted), .int (i32 n_found)])), (aP0_row, aL cJ zP0 p0_row)] (po_X2_keep cI cJ hX2 aX2_tried aX2_triedLeave aX2_numbers aX2_weights aX2_weightsAhead aX2_grains aX2_placeFrom aX2_first n_barred n_limit n_size n_parts n_wanted aP0_row zP0 Q) := by
  refine ct_of (by decide +kernel) (Nat.le_of_ble_eq_true rfl) (fun X hl hDD hcI hcJ hzt hR hF hnm g => ?_)
  subst hl; subst hDD; subst hcI; subst hcJ; subst hzt
  show Wat X 0 0 0 [(0, .ref hX2), (1, .ref aP0_row), (2, .long (i64 l2))] [] [(hX2, .inr (2, [.ref aX2_tried, .ref aX2_triedLeave, .ref aX2_numbers, .ref aX2_weights, .ref aX2_weightsAhead, .ref aX2_grains, .ref aX2_placeFrom, .ref aX2_first, .long (i64 n_barred), .int (i32 n_limit), .int (i32 n_size), .long (i64 n_parts), .long (i64 n_wanted), .int (i32 n_found)])), (aP0_row, aL X.cJ zP0 p0_row)]
  replace g : Gd X cX2_keep RX2 none 4 := g
  rw [wp_X2_keep] at h
  refine q_aload_n g 0 0 rfl dX2_keep_0 ?_
  refine q_get (C := RX2) (T := TX2) (N := 14) g 73 inX2 0 13 rfl rfl (by decide) wF_X2_73 rfl dX2_keep_1 ?_
  refine q_if_lt g (29) 33 r_n_found (by decide) dX2_keep_4 (fun b4 => ?_) (fun b4 => ?_)
  · replace h := h.1 b4
    refine q_lv (lv' := []) [] rfl ?_
    exact s_X2_keep_33 g hR hX2 aX2_tried aX2_triedLeave aX2_numbers aX2_weights aX2_weightsAhead aX2_grains aX2_placeFrom aX2_first n_barred n_limit n_size n_parts n_wanted aP0_row zP0 hzP0 Q hF p0_row n_found r_p0_row r_n_found h
  replace h := h.2 b4
  refine q_aload_n g 0 0 rfl dX2_keep_7 ?_
  refine q_get (C := RX2) (T := TX2) (N := 14) g 73 inX2 0 13 rfl rfl (by decide) wF_X2_73 rfl dX2_keep_8 ?_
  refine q_aload_n g 1 1 rfl dX2_keep_11 ?_
  refine q_alenL g 1 (zP0 : Int) rfl rfl dX2_keep_12 ?_
  refine q_icmp_ge g (20) 33 r_n_found (zrng hzP0) (by decide) dX2_keep_13 (fun b13 => ?_) (fun b13 => ?_)
  · replace h := h.1 b13
    refine q_lv (lv' := []) [] rfl ?_
    exact s_X2_keep_33 g hR hX2 aX2_tried aX2_triedLeave aX2_numbers aX2_weights aX2_weightsAhead aX2_grains aX2_placeFrom aX2_first n_barred n_limit n_size n_parts n_wanted aP0_row zP0 hzP0 Q hF p0_row n_found r_p0_row r_n_found h
  replace h := h.2 b13
  refine q_aload_n g 1 1 rfl dX2_keep_16 ?_
  refine q_aload_n g 0 0 rfl dX2_keep_17 ?_
  refine q_get (C := RX2) (T := TX2) (N := 14) g 73 inX2 0 13 rfl rfl (by decide) wF_X2_73 rfl dX2_keep_18 ?_
  refine q_lload_n g 2 2 rfl dX2_keep_21 ?_
  obtain ⟨c22, h⟩ := h
  obtain ⟨e22, h⟩ := h
  refine q_last (ws' := [(hX2, .inr (2, [.ref aX2_tried, .ref aX2_triedLeave, .ref aX2_numbers, .ref aX2_weights, .ref aX2_weightsAhead, .ref aX2_grains, .ref aX2_placeFrom, .ref aX2_first, .long (i64 n_barred), .int (i32 n_limit), .int (i32 n_size), .long (i64 n_parts), .long (i64 n_wanted), .int (i32 n_found)])), (aP0_row, aL X.cJ zP0 (ups p0_row n_found l2))]) g 1 rfl c22 e22 hzP0 rfl dX2_keep_22 ?_
  refine q_aload_n g 0 0 rfl dX2_keep_23 ?_
  refine q_dup g rfl dX2_keep_24 ?_
  refine q_get (C := RX2) (T := TX2) (N := 14) g 73 inX2 0 13 rfl rfl (by decide) wF_X2_73 rfl dX2_keep_25 ?_
  refine q_iconst g (1) dX2_keep_28 ?_
  obtain ⟨c29, h⟩ := h
  refine q_iadd g dX2_keep_29 ?_
  refine q_topi c29 (fun x30 ex30 rx30 => ?_)
  replace h := h x30 ex30
  refine q_put (C := RX2) (T := TX2) (N := 14) (ty := .int) (ws' := [(hX2, .inr (2, [.ref aX2_tried, .ref aX2_triedLeave, .ref aX2_numbers, .ref aX2_weights, .ref aX2_weightsAhead, .ref aX2_grains, .ref aX2_placeFrom, .ref aX2_first, .long (i64 n_barred), .int (i32 n_limit), .int (i32 n_size), .long (i64 n_parts), .long (i64 n_wanted), .int (i32 x30)])), (aP0_row, aL X.cJ zP0 (ups p0_row n_found l2))]) g 73 inX2 tyX2_ok nmX2 0 13 rfl rfl (by decide) wF_X2_73 rfl rfl rfl rfl (Nat.le_of_ble_eq_true rfl) rfl dX2_keep_30 ?_
  refine q_lv (lv' := []) [] rfl ?_
  exact s_X2_keep_33 g hR hX2 aX2_tried aX2_triedLeave aX2_numbers aX2_weights aX2_weightsAhead aX2_grains aX2_placeFrom aX2_first n_barred n_limit n_size n_parts n_wanted aP0_row zP0 hzP0 Q hF (ups p0_row n_found l2) x30 (rr64_u r_p0_row r_l2) rx30 h
theorem dX2_endWith_0 : decode cX2_endWith 0 = .ok (.lload_n 3, 1) := by decide +kernel
theorem dX2_endWith_1 : decode cX2_endWith 1 = .ok (.lconst 0, 1) := by decide +kernel
theorem dX2_endWith_2 : decode cX2_endWith 2 = .ok (.lcmp, 1) := by decide +kernel
theorem dX2_endWith_3 : decode cX2_endWith 3 = .ok (.ifCond .le 14, 3) := by decide +kernel
theorem dX2_endWith_6 : decode cX2_endWith 6 = .ok (.aload_n 0, 1) := by decide +kernel
theorem dX2_endWith_7 : decode cX2_endWith 7 = .ok (.getfield 67, 3) := by decide +kernel
theorem dX2_endWith_10 : decode cX2_endWith 10 = .ok (.lload_n 3, 1) := by decide +kernel
theorem dX2_endWith_11 : decode cX2_endWith 11 = .ok (.lrem, 1) := by decide +kernel
theorem dX2_endWith_12 : decode cX2_endWith 12 = .ok (.lconst 0, 1) := by decide +kernel
theorem dX2_endWith_13 : decode cX2_endWith 13 = .ok (.lcmp, 1) := by decide +kernel
theorem dX2_endWith_14 : decode cX2_endWith 14 = .ok (.ifCond .eq 4, 3) := by decide +kernel
theorem dX2_endWith_17 : decode cX2_endWith 17 = .ok (.return_, 1) := by decide +kernel
theorem dX2_endWith_18 : decode cX2_endWith 18 = .ok (.aload_n 0, 1) := by decide +kernel
theorem dX2_endWith_19 : decode cX2_endWith 19 = .ok (.lload_n 3, 1) := by decide +kernel
theorem dX2_endWith_20 : decode cX2_endWith 20 = .ok (.invokevirtual 126, 3) := by decide +kernel
theorem dX2_endWith_23 : decode cX2_endWith 23 = .ok (.istore 7, 2) := by decide +kernel
theorem dX2_endWith_25 : decode cX2_endWith 25 = .ok (.iload 7, 2) := by decide +kernel
theorem dX2_endWith_27 : decode cX2_endWith 27 = .ok (.iload_n 2, 1) := by decide +kernel
theorem dX2_endWith_28 : decode cX2_endWith 28 = .ok (.if_icmp .lt 42, 3) := by decide +kernel
theorem dX2_endWith_31 : decode cX2_endWith 31 = .ok (.iload 7, 2) := by decide +kernel
theorem dX2_endWith_33 : decode cX2_endWith 33 = .ok (.aload_n 0, 1) := by decide +kernel
theorem dX2_endWith_34 : decode cX2_endWith 34 = .ok (.getfield 49, 3) := by decide +kernel
theorem dX2_endWith_37 : decode cX2_endWith 37 = .ok (.if_icmp .ge 33, 3) := by decide +kernel
theorem dX2_endWith_40 : decode cX2_endWith 40 = .ok (.aload_n 0, 1) := by decide +kernel
theorem dX2_endWith_41 : decode cX2_endWith 41 = .ok (.getfield 24, 3) := by decide +kernel
theorem dX2_endWith_44 : decode cX2_endWith 44 = .ok (.iload 7, 2) := by decide +kernel
theorem dX2_endWith_46 : decode cX2_endWith 46 = .ok (.laload, 1) := by decide +kernel
theorem dX2_endWith_47 : decode cX2_endWith 47 = .ok (.lload_n 3, 1) := by decide +kernel
theorem dX2_endWith_48 : decode cX2_endWith 48 = .ok (.lcmp, 1) := by decide +kernel
theorem dX2_endWith_49 : decode cX2_endWith 49 = .ok (.ifCond .ne 21, 3) := by decide +kernel
theorem dX2_endWith_52 : decode cX2_endWith 52 = .ok (.aload_n 0, 1) := by decide +kernel
theorem dX2_endWith_53 : decode cX2_endWith 53 = .ok (.aload_n 1, 1) := by decide +kernel
theorem dX2_endWith_54 : decode cX2_endWith 54 = .ok (.lload 5, 2) := by decide +kernel
theorem dX2_endWith_56 : decode cX2_endWith 56 = .ok (.aload_n 0, 1) := by decide +kernel
theorem dX2_endWith_57 : decode cX2_endWith 57 = .ok (.getfield 21, 3) := by decide +kernel
theorem dX2_endWith_60 : decode cX2_endWith 60 = .ok (.iload 7, 2) := by decide +kernel
theorem dX2_endWith_62 : decode cX2_endWith 62 = .ok (.iaload, 1) := by decide +kernel
theorem dX2_endWith_63 : decode cX2_endWith 63 = .ok (.invokestatic 113, 3) := by decide +kernel
theorem dX2_endWith_66 : decode cX2_endWith 66 = .ok (.lor, 1) := by decide +kernel
theorem dX2_endWith_67 : decode cX2_endWith 67 = .ok (.invokevirtual 137, 3) := by decide +kernel
theorem dX2_endWith_70 : decode cX2_endWith 70 = .ok (.return_, 1) := by decide +kernel
abbrev po_X2_endWith (cI cJ : ClassId) (hX2 : Nat) (aX2_tried : Nat) (aX2_triedLeave : Nat) (aX2_numbers : Nat) (aX2_weights : Nat) (aX2_weightsAhead : Nat) (aX2_grains : Nat) (aX2_placeFrom : Nat) (aX2_first : Nat) (n_barred : Int) (n_limit : Int) (n_size : Int) (n_parts : Int) (n_wanted : Int) (aP0_row : Nat) (zP0 : Nat) (n_numbers : Int → Int) (n_weights : Int → Int) (n_placeFrom : Int → Int) (Q : (Int → Int) → Int → Prop) : Option Value → va_W → Prop := fun rv w1 => ∃ (p0_row : Int → Int) (n_found : Int), rv = none ∧ w1 = [(hX2, .inr (2, [.ref aX2_tried, .ref aX2_triedLeave, .ref aX2_numbers, .ref aX2_weights, .ref aX2_weightsAhead, .ref aX2_grains, .ref aX2_placeFrom, .ref aX2_first, .long (i64 n_barred), .int (i32 n_limit), .int (i32 n_size), .long (i64 n_parts), .long (i64 n_wanted), .int (i32 n_found)])), (aP0_row, aL cJ zP0 p0_row), (aX2_numbers, aI cI 60 n_numbers), (aX2_weights, aL cJ 60 n_weights), (aX2_placeFrom, aI cI 61 n_placeFrom)] ∧ rr64 p0_row ∧ r32 n_found ∧ Q p0_row n_found
def wp_X2_endWith_17 (Q : (Int → Int) → Int → Prop) (zP0 : Nat) (n_numbers : Int → Int) (n_weights : Int → Int) (n_placeFrom : Int → Int) (n_limit : Int) (n_size : Int) (n_parts : Int) (p0_row : Int → Int) (n_found : Int) : Prop := Q p0_row n_found
set_option maxHeartbeats 4000000 in
set_option maxRecDepth 100000 in
theorem s_X2_endWith_17 {X : Cx} (g : Gd X cX2_endWith RX2 none 8) (hR : X.R = rmL 3 0 0) (hX2 : Nat) (aX2_tried : Nat) (aX2_triedLeave : Nat) (aX2_numbers : Nat) (aX2_weights : Nat) (aX2_weightsAhead : Nat) (aX2_grains : Nat) (aX2_placeFrom : Nat) (aX2_first : Nat) (n_barred : Int) (n_wanted : Int) (aP0_row : Nat) (zP0 : Nat) (n_numbers : Int → Int) (n_weights : Int → Int) (n_placeFrom : Int → Int) (n_limit : Int) (n_size : Int) (n_parts : Int) (r_n_numbers : rr32 n_numbers) (r_n_weights : rr64 n_weights) (r_n_placeFrom : rr32 n_placeFrom) (r_n_limit : r32 n_limit) (r_n_size : r32 n_size) (r_n_parts : r64 n_parts) (hzP0 : zP0 < 2147483648) (Q : (Int → Int) → Int → Prop) (hF : FQ X 0 0 (po_X2_endWith X.cI X.cJ hX2 aX2_tried aX2_triedLeave aX2_numbers aX2_weights aX2_weightsAhead aX2_grains aX2_placeFrom aX2_first n_barred n_limit n_size n_parts n_wanted aP0_row zP0 n_numbers n_weights n_placeFrom Q)) : ∀ (p0_row : Int → Int) (n_found : Int), rr64 p0_row → r32 n_found → wp_X2_endWith_17 Q zP0 n_numbers n_weights n_placeFrom n_limit n_size n_parts p0_row n_found → Wat X 0 0 17 [] [] [(hX2, .inr (2, [.ref aX2_tried, .ref aX2_triedLeave, .ref aX2_numbers, .ref aX2_weights, .ref aX2_weightsAhead, .ref aX2_grains, .ref aX2_placeFrom, .ref aX2_first, .long (i64 n_barred), .int (i32 n_limit), .int (i32 n_size), .long (i64 n_parts), .long (i64 n_wanted), .int (i32 n_found)])), (aP0_row, aL X.cJ zP0 p0_row), (aX2_numbers, aI X.cI 60 n_numbers), (aX2_weights, aL X.cJ 60 n_weights), (aX2_placeFrom, aI X.cI 61 n_placeFrom)] := by
  intro p0_row n_found r_p0_row r_n_found h
  rw [wp_X2_endWith_17] at h
  exact q_vret g hF ⟨p0_row, n_found, rfl, rfl, r_p0_row, r_n_found, h⟩ dX2_endWith_17
def wp_X2_endWith_70 (Q : (Int → Int) → Int → Prop) (zP0 : Nat) (n_numbers : Int → Int) (n_weights : Int → Int) (n_placeFrom : Int → Int) (n_limit : Int) (n_size : Int) (n_parts : Int) (p0_row : Int → Int) (n_found : Int) : Prop := Q p0_row n_found
set_option maxHeartbeats 4000000 in
set_option maxRecDepth 100000 in
theorem s_X2_endWith_70 {X : Cx} (g : Gd X cX2_endWith RX2 none 8) (hR : X.R = rmL 3 0 0) (hX2 : Nat) (aX2_tried : Nat) (aX2_triedLeave : Nat) (aX2_numbers : Nat) (aX2_weights : Nat) (aX2_weightsAhead : Nat) (aX2_grains : Nat) (aX2_placeFrom : Nat) (aX2_first : Nat) (n_barred : Int) (n_wanted : Int) (aP0_row : Nat) (zP0 : Nat) (n_numbers : Int → Int) (n_weights : Int → Int) (n_placeFrom : Int → Int) (n_limit : Int) (n_size : Int) (n_parts : Int) (r_n_numbers : rr32 n_numbers) (r_n_weights : rr64 n_weights) (r_n_placeFrom : rr32 n_placeFrom) (r_n_limit : r32 n_limit) (r_n_size : r32 n_size) (r_n_parts : r64 n_parts) (hzP0 : zP0 < 2147483648) (Q : (Int → Int) → Int → Prop) (hF : FQ X 0 0 (po_X2_endWith X.cI X.cJ hX2 aX2_tried aX2_triedLeave aX2_numbers aX2_weights aX2_weightsAhead aX2_grains aX2_placeFrom aX2_first n_barred n_limit n_size n_parts n_wanted aP0_row zP0 n_numbers n_weights n_placeFrom Q)) : ∀ (p0_row : Int → Int) (n_found : Int), rr64 p0_row → r32 n_found → wp_X2_endWith_70 Q zP0 n_numbers n_weights n_placeFrom n_limit n_size n_parts p0_row n_found → Wat X 0 0 70 [] [] [(hX2, .inr (2, [.ref aX2_tried, .ref aX2_triedLeave, .ref aX2_numbers, .ref aX2_weights, .ref aX2_weightsAhead, .ref aX2_grains, .ref aX2_placeFrom, .ref aX2_first, .long (i64 n_barred), .int (i32 n_limit), .int (i32 n_size), .long (i64 n_parts), .long (i64 n_wanted), .int (i32 n_found)])), (aP0_row, aL X.cJ zP0 p0_row), (aX2_numbers, aI X.cI 60 n_numbers), (aX2_weights, aL X.cJ 60 n_weights), (aX2_placeFrom, aI X.cI 61 n_placeFrom)] := by
  intro p0_row n_found r_p0_row r_n_found h
  rw [wp_X2_endWith_70] at h
  exact q_vret g hF ⟨p0_row, n_found, rfl, rfl, r_p0_row, r_n_found, h⟩ dX2_endWith_70
def wp_X2_endWith (Q : (Int → Int) → Int → Prop) (zP0 : Nat) (p0_row : Int → Int) (n_numbers : Int → Int) (n_weights : Int → Int) (n_placeFrom : Int → Int) (n_limit : Int) (n_size : Int) (n_parts : Int) (n_found : Int) (l2 : Int) (l3 : Int) (l5 : Int) : Prop := ((l3 ≤ 0 → wp_X2_endWith_17 Q zP0 n_numbers n_weights n_placeFrom n_limit n_size n_parts p0_row n_found) ∧
  (¬ (l3 ≤ 0) → (0 < l3 ∧ (((n_parts.tmod l3) = 0 → wp_X2_firstNotAbove (fun (x20 : Int) => ((x20 < l2 → wp_X2_endWith_70 Q zP0 n_numbers n_weights n_placeFrom n_limit n_size n_parts p0_row n_found) ∧
  (¬ (x20 < l2) → ((n_size ≤ x20 → wp_X2_endWith_70 Q zP0 n_numbers n_weights n_placeFrom n_limit n_size n_parts p0_row n_found) ∧
  (¬ (n_size ≤ x20) → (0 ≤ x20 ∧ x20 < 60 ∧ ((¬ (n_weights x20) = l3 → wp_X2_endWith_70 Q zP0 n_numbers n_weights n_placeFrom n_limit n_size n_parts p0_row n_found) ∧
  ((n_weights x20) = l3 → (0 ≤ x20 ∧ x20 < 60 ∧ wp_X4_bit (fun (x63 : Int) => wp_X2_keep (fun (p0_row_67 : Int → Int) (n_found_67 : Int) => wp_X2_endWith_70 Q zP0 n_numbers n_weights n_placeFrom n_limit n_size n_parts p0_row_67 n_found_67) zP0 p0_row n_found (lor64 l5 x63)) (n_numbers x20)))))))))) n_placeFrom n_limit n_size n_parts l3) ∧
  (¬ ((n_parts.tmod l3) = 0) → wp_X2_endWith_17 Q zP0 n_numbers n_weights n_placeFrom n_limit n_size n_parts p0_row n_found)))))
set_option maxHeartbeats 4000000 in
set_option maxRecDepth 100000 in
theorem c_X2_endWith (l : Launch) (D : va_G) (cI cJ : ClassId) (zt : Nat) (hX2 : Nat) (aX2_tried : Nat) (aX2_triedLeave : Nat) (aX2_numbers : Nat) (aX2_weights : Nat) (aX2_weightsAhead : Nat) (aX2_grains : Nat) (aX2_placeFrom : Nat) (aX2_first : Nat) (n_barred : Int) (n_limit : Int) (n_size : Int) (n_parts : Int) (n_wanted : Int) (n_found : Int) (aP0_row : Nat) (zP0 : Nat) (p0_row : Int → Int) (n_numbers : Int → Int) (n_weights : Int → Int) (n_placeFrom : Int → Int) (l2 : Int) (l3 : Int) (l5 : Int) (Q : (Int → Int) → Int → Prop) (r_p0_row : rr64 p0_row) (r_n_numbers : rr32 n_numbers) (r_n_weights : rr64 n_weights) (r_n_placeFrom : rr32 n_placeFrom) (r_n_limit : r32 n_limit) (r_n_size : r32 n_size) (r_n_parts : r64 n_parts) (r_n_found : r32 n_found) (r_l2 : r32 l2) (r_l3 : r64 l3) (r_l5 : r64 l5) (hzP0 : zP0 < 2147483648) (h : wp_X2_endWith Q zP0 p0_row n_numbers n_weights n_placeFrom n_limit n_size n_parts n_found l2 l3 l5) : Ct l D cI cJ zt yX2_endWith cX2_endWith 8 none 3 0 0 [.ref hX2, .ref aP0_row, .int (i32 l2), .long (i64 l3), .long (i64 l5)] [(hX2, .inr (2, [.ref aX2_tried, .ref aX2_triedLeave, .ref aX2_numbers, .ref aX2_weights, .ref aX2_weightsAhead, .ref aX2_grains, .ref aX2_placeFrom, .ref aX2_first, .long (i64 n_barred), .int (i32 n_limit), .int (i32 n_size), .long (i64 n_parts), .long (i64 n_wanted), .int (i32 n_found)])), (aP0_row, aL cJ zP0 p0_row), (aX2_numbers, aI cI 60 n_numbers), (aX2_weights, aL cJ 60 n_weights), (aX2_placeFrom, aI cI 61 n_placeFrom)] (po_X2_endWith cI cJ hX2 aX2_tried aX2_triedLeave aX2_numbers aX2_weights aX2_weightsAhead aX2_grains aX2_placeFrom aX2_first n_barred n_limit n_size n_parts n_wanted aP0_row zP0 n_numbers n_weights n_placeFrom Q) := by
  refine ct_of (by decide +kernel) (Nat.le_of_ble_eq_true rfl) (fun X hl hDD hcI hcJ hzt hR hF hnm g => ?_)
  subst hl; subst hDD; subst hcI; subst hcJ; subst hzt
  show Wat X 0 0 0 [(0, .ref hX2), (1, .ref aP0_row), (2, .int (i32 l2)), (3, .long (i64 l3)), (5, .long (i64 l5))] [] [(hX2, .inr (2, [.ref aX2_tried, .ref aX2_triedLeave, .ref aX2_numbers, .ref aX2_weights, .ref aX2_weightsAhead, .ref aX2_grains, .ref aX2_placeFrom, .ref aX2_first, .long (i64 n_barred), .int (i32 n_limit), .int (i32 n_size), .long (i64 n_parts), .long (i64 n_wanted), .int (i32 n_found)])), (aP0_row, aL X.cJ zP0 p0_row), (aX2_numbers, aI X.cI 60 n_numbers), (aX2_weights, aL X.cJ 60 n_weights), (aX2_placeFrom, aI X.cI 61 n_placeFrom)]
  replace g : Gd X cX2_endWith RX2 none 8 := g
  rw [wp_X2_endWith] at h
  refine q_lload_n g 3 3 rfl dX2_endWith_0 ?_
  refine q_lconst g 0 0 rfl dX2_endWith_1 ?_
  refine q_lcmp_le g (14) 17 r_l3 (r64_lit _ (by decide)) (by decide) dX2_endWith_2 dX2_endWith_3 (fun b2 => ?_) (fun b2 => ?_)
  · replace h := h.1 b2
    refine q_lv (lv' := []) [] rfl ?_
    exact s_X2_endWith_17 g hR hX2 aX2_tried aX2_triedLeave aX2_numbers aX2_weights aX2_weightsAhead aX2_grains aX2_placeFrom aX2_first n_barred n_wanted aP0_row zP0 n_numbers n_weights n_placeFrom n_limit n_size n_parts r_n_numbers r_n_weights r_n_placeFrom r_n_limit r_n_size r_n_parts hzP0 Q hF p0_row n_found r_p0_row r_n_found h
  replace h := h.2 b2
  refine q_aload_n g 0 0 rfl dX2_endWith_6 ?_
  refine q_get (C := RX2) (T := TX2) (N := 14) g 67 inX2 0 11 rfl rfl (by decide) wF_X2_67 rfl dX2_endWith_7 ?_
  refine q_lload_n g 3 3 rfl dX2_endWith_10 ?_
  obtain ⟨c11, h⟩ := h
  refine q_lrem g r_n_parts r_l3 (ne_of_pos c11) dX2_endWith_11 ?_
  refine q_lconst g 0 0 rfl dX2_endWith_12 ?_
  refine q_lcmp_eq g (4) 18 (r64_tmod r_n_parts r_l3 (ne_of_pos c11)) (r64_lit _ (by decide)) (by decide) dX2_endWith_13 dX2_endWith_14 (fun b13 => ?_) (fun b13 => ?_)
  · replace h := h.1 b13
    refine q_aload_n g 0 0 rfl dX2_endWith_18 ?_
    refine q_lload_n g 3 3 rfl dX2_endWith_19 ?_
    refine q_callV (lev := 2) (mc := 0) (ms := 0) g 126 (c_X2_firstNotAbove X.l X.D X.cI X.cJ X.zt hX2 aX2_tried aX2_triedLeave aX2_numbers aX2_weights aX2_weightsAhead aX2_grains aX2_placeFrom aX2_first n_barred n_limit n_size n_parts n_wanted n_found n_placeFrom l3 _ r_n_placeFrom r_n_limit r_n_size r_n_parts r_l3 h) (wr := [(aP0_row, aL X.cJ zP0 p0_row), (aX2_numbers, aI X.cI 60 n_numbers), (aX2_weights, aL X.cJ 60 n_weights)]) [0, 4] [1, 2, 3] rfl rfl rfl (by decide) (by decide) (by decide) (ci := 2) rfl rfl rfl wM_X2_126 wI_X2_firstNotAbove wS_X2_firstNotAbove wZ_X2 wC_X2_firstNotAbove 1 rfl (by decide +kernel) (by rw [hR]; exact ⟨by show 2 + 1 ≤ 3; omega, by show 8 + (5 + 11) + 100 * 2 ≤ 100 * 3; omega⟩) (by rw [hR]; exact ⟨Nat.le_refl _, Nat.le_refl _⟩) (Nat.le_of_ble_eq_true rfl) rfl dX2_endWith_20 (fun rv w1 hq => ?_)
    obtain ⟨x20, rfl, rfl, rx20, h⟩ := hq
    refine q_ws (ws' := [(hX2, .inr (2, [.ref aX2_tried, .ref aX2_triedLeave, .ref aX2_numbers, .ref aX2_weights, .ref aX2_weightsAhead, .ref aX2_grains, .ref aX2_placeFrom, .ref aX2_first, .long (i64 n_barred), .int (i32 n_limit), .int (i32 n_size), .long (i64 n_parts), .long (i64 n_wanted), .int (i32 n_found)])), (aP0_row, aL X.cJ zP0 p0_row), (aX2_numbers, aI X.cI 60 n_numbers), (aX2_weights, aL X.cJ 60 n_weights), (aX2_placeFrom, aI X.cI 61 n_placeFrom)]) [3, 0, 1, 2, 4] (by decide) rfl rfl ?_
    show Wat X 0 0 23 [(0, .ref hX2), (1, .ref aP0_row), (2, .int (i32 l2)), (3, .long (i64 l3)), (5, .long (i64 l5))] [.int (i32 x20)] [(hX2, .inr (2, [.ref aX2_tried, .ref aX2_triedLeave, .ref aX2_numbers, .ref aX2_weights, .ref aX2_weightsAhead, .ref aX2_grains, .ref aX2_placeFrom, .ref aX2_first, .long (i64 n_barred), .int (i32 n_limit), .int (i32 n_size), .long (i64 n_parts), .long (i64 n_wanted), .int (i32 n_found)])), (aP0_row, aL X.cJ zP0 p0_row), (aX2_numbers, aI X.cI 60 n_numbers), (aX2_weights, aL X.cJ 60 n_weights), (aX2_placeFrom, aI X.cI 61 n_placeFrom)]
    refine q_istore (lv' := [(7, .int (i32 x20)), (0, .ref hX2), (1, .ref aP0_row), (2, .int (i32 l2)), (3, .long (i64 l3)), (5, .long (i64 l5))]) g 7   (by decide) rfl dX2_endWith_23 ?_
    refine q_iload g 7 0 rfl dX2_endWith_25 ?_
    refine q_iload_n g 2 3 rfl dX2_endWith_27 ?_
    refine q_icmp_lt g (42) 70 rx20 r_l2 (by decide) dX2_endWith_28 (fun b28 => ?_) (fun b28 => ?_)
    · replace h := h.1 b28
      refine q_lv (lv' := []) [] rfl ?_
      exact s_X2_endWith_70 g hR hX2 aX2_tried aX2_triedLeave aX2_numbers aX2_weights aX2_weightsAhead aX2_grains aX2_placeFrom aX2_first n_barred n_wanted aP0_row zP0 n_numbers n_weights n_placeFrom n_limit n_size n_parts r_n_numbers r_n_weights r_n_placeFrom r_n_limit r_n_size r_n_parts hzP0 Q hF p0_row n_found r_p0_row r_n_found h
    replace h := h.2 b28
    refine q_iload g 7 0 rfl dX2_endWith_31 ?_
    refine q_aload_n g 0 1 rfl dX2_endWith_33 ?_
    refine q_get (C := RX2) (T := TX2) (N := 14) g 49 inX2 0 10 rfl rfl (by decide) wF_X2_49 rfl dX2_endWith_34 ?_
    refine q_icmp_ge g (33) 70 rx20 r_n_size (by decide) dX2_endWith_37 (fun b37 => ?_) (fun b37 => ?_)
    · replace h := h.1 b37
      refine q_lv (lv' := []) [] rfl ?_
      exact s_X2_endWith_70 g hR hX2 aX2_tried aX2_triedLeave aX2_numbers aX2_weights aX2_weightsAhead aX2_grains aX2_placeFrom aX2_first n_barred n_wanted aP0_row zP0 n_numbers n_weights n_placeFrom n_limit n_size n_parts r_n_numbers r_n_weights r_n_placeFrom r_n_limit r_n_size r_n_parts hzP0 Q hF p0_row n_found r_p0_row r_n_found h
    replace h := h.2 b37
    refine q_aload_n g 0 1 rfl dX2_endWith_40 ?_
    refine q_get (C := RX2) (T := TX2) (N := 14) g 24 inX2 0 3 rfl rfl (by decide) wF_X2_24 rfl dX2_endWith_41 ?_
    refine q_iload g 7 0 rfl dX2_endWith_44 ?_
    obtain ⟨c46, h⟩ := h
    obtain ⟨e46, h⟩ := h
    refine q_lald g 3 rfl c46 e46 (by decide) dX2_endWith_46 ?_
    refine q_lload_n g 3 4 rfl dX2_endWith_47 ?_
    refine q_lcmp_ne g (21) 70 (r_n_weights _) r_l3 (by decide) dX2_endWith_48 dX2_endWith_49 (fun b48 => ?_) (fun b48 => ?_)
    · replace h := h.1 b48
      refine q_lv (lv' := []) [] rfl ?_
      exact s_X2_endWith_70 g hR hX2 aX2_tried aX2_triedLeave aX2_numbers aX2_weights aX2_weightsAhead aX2_grains aX2_placeFrom aX2_first n_barred n_wanted aP0_row zP0 n_numbers n_weights n_placeFrom n_limit n_size n_parts r_n_numbers r_n_weights r_n_placeFrom r_n_limit r_n_size r_n_parts hzP0 Q hF p0_row n_found r_p0_row r_n_found h
    replace h := h.2 b48
    refine q_aload_n g 0 1 rfl dX2_endWith_52 ?_
    refine q_aload_n g 1 2 rfl dX2_endWith_53 ?_
    refine q_lload g 5 5 rfl dX2_endWith_54 ?_
    refine q_aload_n g 0 1 rfl dX2_endWith_56 ?_
    refine q_get (C := RX2) (T := TX2) (N := 14) g 21 inX2 0 2 rfl rfl (by decide) wF_X2_21 rfl dX2_endWith_57 ?_
    refine q_iload g 7 0 rfl dX2_endWith_60 ?_
    obtain ⟨c62, h⟩ := h
    obtain ⟨e62, h⟩ := h
    refine q_iald g 2 rfl c62 e62 (by decide) dX2_endWith_62 ?_
    refine q_callS (lev := 1) (mc := 0) (ms := 0) (As := [.int (i32 (n_numbers x20))]) g 113 (c_X4_bit X.l X.D X.cI X.cJ X.zt (n_numbers x20) _ (r_n_numbers _) h) (wr := [(hX2, .inr (2, [.ref aX2_tried, .ref aX2_triedLeave, .ref aX2_numbers, .ref aX2_weights, .ref aX2_weightsAhead, .ref aX2_grains, .ref aX2_placeFrom, .ref aX2_first, .long (i64 n_barred), .int (i32 n_limit), .int (i32 n_size), .long (i64 n_parts), .long (i64 n_wanted), .int (i32 n_found)])), (aP0_row, aL X.cJ zP0 p0_row), (aX2_numbers, aI X.cI 60 n_numbers), (aX2_weights, aL X.cJ 60 n_weights), (aX2_placeFrom, aI X.cI 61 n_placeFrom)]) [] [0, 1, 2, 3, 4] rfl rfl rfl (by decide) (by decide) (by decide) wM_X2_113 wT_X4_bit wZ_X4 wC_X4_bit 1 rfl (by decide +kernel) (by rw [hR]; exact ⟨by show 1 + 1 ≤ 3; omega, by show 8 + (1 + 11) + 100 * 1 ≤ 100 * 3; omega⟩) (by rw [hR]; exact ⟨Nat.le_refl _, Nat.le_refl _⟩) (Nat.le_of_ble_eq_true rfl) rfl dX2_endWith_63 (fun rv w1 hq => ?_)
    obtain ⟨x63, rfl, rfl, rx63, h⟩ := hq
    show Wat X 0 0 66 [(7, .int (i32 x20)), (0, .ref hX2), (1, .ref aP0_row), (2, .int (i32 l2)), (3, .long (i64 l3)), (5, .long (i64 l5))] [.long (i64 x63), .long (i64 l5), .ref aP0_row, .ref hX2] [(hX2, .inr (2, [.ref aX2_tried, .ref aX2_triedLeave, .ref aX2_numbers, .ref aX2_weights, .ref aX2_weightsAhead, .ref aX2_grains, .ref aX2_placeFrom, .ref aX2_first, .long (i64 n_barred), .int (i32 n_limit), .int (i32 n_size), .long (i64 n_parts), .long (i64 n_wanted), .int (i32 n_found)])), (aP0_row, aL X.cJ zP0 p0_row), (aX2_numbers, aI X.cI 60 n_numbers), (aX2_weights, aL X.cJ 60 n_weights), (aX2_placeFrom, aI X.cI 61 n_placeFrom)]
    refine q_lor g dX2_endWith_66 ?_
    refine q_callV (lev := 1) (mc := 0) (ms := 0) g 137 (c_X2_keep X.l X.D X.cI X.cJ X.zt hX2 aX2_tried aX2_triedLeave aX2_numbers aX2_weights aX2_weightsAhead aX2_grains aX2_placeFrom aX2_first n_barred n_limit n_size n_parts n_wanted n_found aP0_row zP0 p0_row (lor64 l5 x63) _ r_p0_row r_n_found (r_lor64 _ _) hzP0 h) (wr := [(aX2_numbers, aI X.cI 60 n_numbers), (aX2_weights, aL X.cJ 60 n_weights), (aX2_placeFrom, aI X.cI 61 n_placeFrom)]) [0, 1] [2, 3, 4] rfl rfl rfl (by decide) (by decide) (by decide) (ci := 2) rfl rfl rfl wM_X2_137 wI_X2_keep wS_X2_keep wZ_X2 wC_X2_keep 2 rfl (by decide +kernel) (by rw [hR]; exact ⟨by show 1 + 1 ≤ 3; omega, by show 8 + (4 + 11) + 100 * 1 ≤ 100 * 3; omega⟩) (by rw [hR]; exact ⟨Nat.le_refl _, Nat.le_refl _⟩) (Nat.le_of_ble_eq_true rfl) rfl dX2_endWith_67 (fun rv w1 hq => ?_)
    obtain ⟨p0_row_67, n_found_67, rfl, rfl, rp0_row_67, rn_found_67, h⟩ := hq
    refine q_ws (ws' := [(hX2, .inr (2, [.ref aX2_tried, .ref aX2_triedLeave, .ref aX2_numbers, .ref aX2_weights, .ref aX2_weightsAhead, .ref aX2_grains, .ref aX2_placeFrom, .ref aX2_first, .long (i64 n_barred), .int (i32 n_limit), .int (i32 n_size), .long (i64 n_parts), .long (i64 n_wanted), .int (i32 n_found_67)])), (aP0_row, aL X.cJ zP0 p0_row_67), (aX2_numbers, aI X.cI 60 n_numbers), (aX2_weights, aL X.cJ 60 n_weights), (aX2_placeFrom, aI X.cI 61 n_placeFrom)]) [3, 4, 0, 1, 2] (by decide) rfl rfl ?_
    show Wat X 0 0 70 [(7, .int (i32 x20)), (0, .ref hX2), (1, .ref aP0_row), (2, .int (i32 l2)), (3, .long (i64 l3)), (5, .long (i64 l5))] [] [(hX2, .inr (2, [.ref aX2_tried, .ref aX2_triedLeave, .ref aX2_numbers, .ref aX2_weights, .ref aX2_weightsAhead, .ref aX2_grains, .ref aX2_placeFrom, .ref aX2_first, .long (i64 n_barred), .int (i32 n_limit), .int (i32 n_size), .long (i64 n_parts), .long (i64 n_wanted), .int (i32 n_found_67)])), (aP0_row, aL X.cJ zP0 p0_row_67), (aX2_numbers, aI X.cI 60 n_numbers), (aX2_weights, aL X.cJ 60 n_weights), (aX2_placeFrom, aI X.cI 61 n_placeFrom)]
    refine q_lv (lv' := []) [] rfl ?_
    exact s_X2_endWith_70 g hR hX2 aX2_tried aX2_triedLeave aX2_numbers aX2_weights aX2_weightsAhead aX2_grains aX2_placeFrom aX2_first n_barred n_wanted aP0_row zP0 n_numbers n_weights n_placeFrom n_limit n_size n_parts r_n_numbers r_n_weights r_n_placeFrom r_n_limit r_n_size r_n_parts hzP0 Q hF p0_row_67 n_found_67 rp0_row_67 rn_found_67 h
  replace h := h.2 b13
  refine q_lv (lv' := []) [] rfl ?_
  exact s_X2_endWith_17 g hR hX2 aX2_tried aX2_triedLeave aX2_numbers aX2_weights aX2_weightsAhead aX2_grains aX2_placeFrom aX2_first n_barred n_wanted aP0_row zP0 n_numbers n_weights n_placeFrom n_limit n_size n_parts r_n_numbers r_n_weights r_n_placeFrom r_n_limit r_n_size r_n_parts hzP0 Q hF p0_row n_found r_p0_row r_n_found h
theorem dX2_extend_0 : decode cX2_extend 0 = .ok (.iload_n 2, 1) := by decide +kernel
theorem dX2_extend_1 : decode cX2_extend 1 = .ok (.iconst 1, 1) := by decide +kernel
theorem dX2_extend_2 : decode cX2_extend 2 = .ok (.if_icmp .gt 14, 3) := by decide +kernel
theorem dX2_extend_5 : decode cX2_extend 5 = .ok (.aload_n 0, 1) := by decide +kernel
theorem dX2_extend_6 : decode cX2_extend 6 = .ok (.aload_n 1, 1) := by decide +kernel
theorem dX2_extend_7 : decode cX2_extend 7 = .ok (.iload_n 3, 1) := by decide +kernel
theorem dX2_extend_8 : decode cX2_extend 8 = .ok (.lload 4, 2) := by decide +kernel
theorem dX2_extend_10 : decode cX2_extend 10 = .ok (.lload 6, 2) := by decide +kernel
theorem dX2_extend_12 : decode cX2_extend 12 = .ok (.invokevirtual 122, 3) := by decide +kernel
theorem dX2_extend_15 : decode cX2_extend 15 = .ok (.return_, 1) := by decide +kernel
theorem dX2_extend_16 : decode cX2_extend 16 = .ok (.iload_n 3, 1) := by decide +kernel
theorem dX2_extend_17 : decode cX2_extend 17 = .ok (.aload_n 0, 1) := by decide +kernel
theorem dX2_extend_18 : decode cX2_extend 18 = .ok (.lload 4, 2) := by decide +kernel
theorem dX2_extend_20 : decode cX2_extend 20 = .ok (.invokevirtual 126, 3) := by decide +kernel
theorem dX2_extend_23 : decode cX2_extend 23 = .ok (.invokestatic 130, 3) := by decide +kernel
theorem dX2_extend_26 : decode cX2_extend 26 = .ok (.istore 8, 2) := by decide +kernel
theorem dX2_extend_28 : decode cX2_extend 28 = .ok (.iload 8, 2) := by decide +kernel
theorem dX2_extend_30 : decode cX2_extend 30 = .ok (.aload_n 0, 1) := by decide +kernel
theorem dX2_extend_31 : decode cX2_extend 31 = .ok (.getfield 49, 3) := by decide +kernel
theorem dX2_extend_34 : decode cX2_extend 34 = .ok (.if_icmp .ge 91, 3) := by decide +kernel
theorem dX2_extend_37 : decode cX2_extend 37 = .ok (.aload_n 0, 1) := by decide +kernel
theorem dX2_extend_38 : decode cX2_extend 38 = .ok (.getfield 73, 3) := by decide +kernel
theorem dX2_extend_41 : decode cX2_extend 41 = .ok (.aload_n 1, 1) := by decide +kernel
theorem dX2_extend_42 : decode cX2_extend 42 = .ok (.arraylength, 1) := by decide +kernel
theorem dX2_extend_43 : decode cX2_extend 43 = .ok (.if_icmp .ge 82, 3) := by decide +kernel
theorem dX2_extend_46 : decode cX2_extend 46 = .ok (.aload_n 0, 1) := by decide +kernel
theorem dX2_extend_47 : decode cX2_extend 47 = .ok (.iload 8, 2) := by decide +kernel
theorem dX2_extend_49 : decode cX2_extend 49 = .ok (.iload_n 2, 1) := by decide +kernel
theorem dX2_extend_50 : decode cX2_extend 50 = .ok (.lload 4, 2) := by decide +kernel
theorem dX2_extend_52 : decode cX2_extend 52 = .ok (.invokevirtual 133, 3) := by decide +kernel
theorem dX2_extend_55 : decode cX2_extend 55 = .ok (.ifCond .ne 4, 3) := by decide +kernel
theorem dX2_extend_58 : decode cX2_extend 58 = .ok (.return_, 1) := by decide +kernel
theorem dX2_extend_59 : decode cX2_extend 59 = .ok (.lload 6, 2) := by decide +kernel
theorem dX2_extend_61 : decode cX2_extend 61 = .ok (.aload_n 0, 1) := by decide +kernel
theorem dX2_extend_62 : decode cX2_extend 62 = .ok (.getfield 21, 3) := by decide +kernel
theorem dX2_extend_65 : decode cX2_extend 65 = .ok (.iload 8, 2) := by decide +kernel
theorem dX2_extend_67 : decode cX2_extend 67 = .ok (.iaload, 1) := by decide +kernel
theorem dX2_extend_68 : decode cX2_extend 68 = .ok (.invokestatic 113, 3) := by decide +kernel
theorem dX2_extend_71 : decode cX2_extend 71 = .ok (.lor, 1) := by decide +kernel
theorem dX2_extend_72 : decode cX2_extend 72 = .ok (.lstore 9, 2) := by decide +kernel
theorem dX2_extend_74 : decode cX2_extend 74 = .ok (.lload 4, 2) := by decide +kernel
theorem dX2_extend_76 : decode cX2_extend 76 = .ok (.aload_n 0, 1) := by decide +kernel
theorem dX2_extend_77 : decode cX2_extend 77 = .ok (.getfield 24, 3) := by decide +kernel
theorem dX2_extend_80 : decode cX2_extend 80 = .ok (.iload 8, 2) := by decide +kernel
theorem dX2_extend_82 : decode cX2_extend 82 = .ok (.laload, 1) := by decide +kernel
theorem dX2_extend_83 : decode cX2_extend 83 = .ok (.lsub, 1) := by decide +kernel
theorem dX2_extend_84 : decode cX2_extend 84 = .ok (.lstore 11, 2) := by decide +kernel
theorem dX2_extend_86 : decode cX2_extend 86 = .ok (.lload 11, 2) := by decide +kernel
theorem dX2_extend_88 : decode cX2_extend 88 = .ok (.lconst 0, 1) := by decide +kernel
theorem dX2_extend_89 : decode cX2_extend 89 = .ok (.lcmp, 1) := by decide +kernel
theorem dX2_extend_90 : decode cX2_extend 90 = .ok (.ifCond .ne 13, 3) := by decide +kernel
theorem dX2_extend_93 : decode cX2_extend 93 = .ok (.aload_n 0, 1) := by decide +kernel
theorem dX2_extend_94 : decode cX2_extend 94 = .ok (.aload_n 1, 1) := by decide +kernel
theorem dX2_extend_95 : decode cX2_extend 95 = .ok (.lload 9, 2) := by decide +kernel
theorem dX2_extend_97 : decode cX2_extend 97 = .ok (.invokevirtual 137, 3) := by decide +kernel
theorem dX2_extend_100 : decode cX2_extend 100 = .ok (.goto 19, 3) := by decide +kernel
theorem dX2_extend_103 : decode cX2_extend 103 = .ok (.aload_n 0, 1) := by decide +kernel
theorem dX2_extend_104 : decode cX2_extend 104 = .ok (.aload_n 1, 1) := by decide +kernel
theorem dX2_extend_105 : decode cX2_extend 105 = .ok (.iload_n 2, 1) := by decide +kernel
theorem dX2_extend_106 : decode cX2_extend 106 = .ok (.iconst 1, 1) := by decide +kernel
theorem dX2_extend_107 : decode cX2_extend 107 = .ok (.isub, 1) := by decide +kernel
theorem dX2_extend_108 : decode cX2_extend 108 = .ok (.iload 8, 2) := by decide +kernel
theorem dX2_extend_110 : decode cX2_extend 110 = .ok (.iconst 1, 1) := by decide +kernel
theorem dX2_extend_111 : decode cX2_extend 111 = .ok (.iadd, 1) := by decide +kernel
theorem dX2_extend_112 : decode cX2_extend 112 = .ok (.lload 11, 2) := by decide +kernel
theorem dX2_extend_114 : decode cX2_extend 114 = .ok (.lload 9, 2) := by decide +kernel
theorem dX2_extend_116 : decode cX2_extend 116 = .ok (.invokestatic 76, 3) := by decide +kernel
theorem dX2_extend_119 : decode cX2_extend 119 = .ok (.iinc 8 1, 3) := by decide +kernel
theorem dX2_extend_122 : decode cX2_extend 122 = .ok (.goto (-94), 3) := by decide +kernel
theorem dX2_extend_125 : decode cX2_extend 125 = .ok (.return_, 1) := by decide +kernel
abbrev po_X2_extend (cI cJ : ClassId) (hX2 : Nat) (aX2_tried : Nat) (aX2_triedLeave : Nat) (aX2_numbers : Nat) (aX2_weights : Nat) (aX2_weightsAhead : Nat) (aX2_grains : Nat) (aX2_placeFrom : Nat) (aX2_first : Nat) (n_barred : Int) (n_limit : Int) (n_size : Int) (n_parts : Int) (n_wanted : Int) (aP1_row : Nat) (zP1 : Nat) (n_numbers : Int → Int) (n_weights : Int → Int) (n_weightsAhead : Int → Int) (n_grains : Int → Int) (n_placeFrom : Int → Int) (Q : (Int → Int) → Int → Prop) : Option Value → va_W → Prop := fun rv w1 => ∃ (p1_row : Int → Int) (n_found : Int), rv = none ∧ w1 = [(hX2, .inr (2, [.ref aX2_tried, .ref aX2_triedLeave, .ref aX2_numbers, .ref aX2_weights, .ref aX2_weightsAhead, .ref aX2_grains, .ref aX2_placeFrom, .ref aX2_first, .long (i64 n_barred), .int (i32 n_limit), .int (i32 n_size), .long (i64 n_parts), .long (i64 n_wanted), .int (i32 n_found)])), (aP1_row, aL cJ zP1 p1_row), (aX2_numbers, aI cI 60 n_numbers), (aX2_weights, aL cJ 60 n_weights), (aX2_weightsAhead, aL cJ 61 n_weightsAhead), (aX2_grains, aL cJ 61 n_grains), (aX2_placeFrom, aI cI 61 n_placeFrom)] ∧ rr64 p1_row ∧ r32 n_found ∧ Q p1_row n_found
def wp_X2_extend_119 (Q : (Int → Int) → Int → Prop) (Rec : ((Int → Int) → Int → Prop) → Nat → (Int → Int) → (Int → Int) → (Int → Int) → (Int → Int) → (Int → Int) → (Int → Int) → Int → Int → Int → Int → Int → Int → Int → Int → Prop) (zP1 : Nat) (n_numbers : Int → Int) (n_weights : Int → Int) (n_weightsAhead : Int → Int) (n_grains : Int → Int) (n_placeFrom : Int → Int) (n_limit : Int) (n_size : Int) (n_parts : Int) (K_28 : (Int → Int) → Int → Int → Int → Int → Int → Prop) (p1_row : Int → Int) (n_found : Int) (l2 : Int) (l4 : Int) (l6 : Int) (l8 : Int) : Prop := (r32 (l8 + 1) ∧ K_28 p1_row n_found l2 l4 l6 (l8 + 1))
set_option maxHeartbeats 4000000 in
set_option maxRecDepth 100000 in
theorem s_X2_extend_119 {X : Cx} {d d0 : Nat} (hdd : d = d0 + 1) (g : Gd X cX2_extend RX2 none 13) (hR : X.R = rmL (4 + d) 0 0) (hX2 : Nat) (aX2_tried : Nat) (aX2_triedLeave : Nat) (aX2_numbers : Nat) (aX2_weights : Nat) (aX2_weightsAhead : Nat) (aX2_grains : Nat) (aX2_placeFrom : Nat) (aX2_first : Nat) (n_barred : Int) (n_wanted : Int) (aP1_row : Nat) (zP1 : Nat) (n_numbers : Int → Int) (n_weights : Int → Int) (n_weightsAhead : Int → Int) (n_grains : Int → Int) (n_placeFrom : Int → Int) (n_limit : Int) (n_size : Int) (n_parts : Int) (r_n_numbers : rr32 n_numbers) (r_n_weights : rr64 n_weights) (r_n_weightsAhead : rr64 n_weightsAhead) (r_n_grains : rr64 n_grains) (r_n_placeFrom : rr32 n_placeFrom) (r_n_limit : r32 n_limit) (r_n_size : r32 n_size) (r_n_parts : r64 n_parts) (hzP1 : zP1 < 2147483648) (Q : (Int → Int) → Int → Prop) (hF : FQ X 0 0 (po_X2_extend X.cI X.cJ hX2 aX2_tried aX2_triedLeave aX2_numbers aX2_weights aX2_weightsAhead aX2_grains aX2_placeFrom aX2_first n_barred n_limit n_size n_parts n_wanted aP1_row zP1 n_numbers n_weights n_weightsAhead n_grains n_placeFrom Q)) (Rec : ((Int → Int) → Int → Prop) → Nat → (Int → Int) → (Int → Int) → (Int → Int) → (Int → Int) → (Int → Int) → (Int → Int) → Int → Int → Int → Int → Int → Int → Int → Int → Prop) (hRec : ∀ (hX2 : Nat) (aX2_tried : Nat) (aX2_triedLeave : Nat) (aX2_numbers : Nat) (aX2_weights : Nat) (aX2_weightsAhead : Nat) (aX2_grains : Nat) (aX2_placeFrom : Nat) (aX2_first : Nat) (n_barred : Int) (n_limit : Int) (n_size : Int) (n_parts : Int) (n_wanted : Int) (n_found : Int) (aP1_row : Nat) (zP1 : Nat) (p1_row : Int → Int) (n_numbers : Int → Int) (n_weights : Int → Int) (n_weightsAhead : Int → Int) (n_grains : Int → Int) (n_placeFrom : Int → Int) (l2 : Int) (l3 : Int) (l4 : Int) (l6 : Int) (Q : (Int → Int) → Int → Prop) (r_p1_row : rr64 p1_row) (r_n_numbers : rr32 n_numbers) (r_n_weights : rr64 n_weights) (r_n_weightsAhead : rr64 n_weightsAhead) (r_n_grains : rr64 n_grains) (r_n_placeFrom : rr32 n_placeFrom) (r_n_limit : r32 n_limit) (r_n_size : r32 n_size) (r_n_parts : r64 n_parts) (r_n_found : r32 n_found) (r_l2 : r32 l2) (r_l3 : r32 l3) (r_l4 : r64 l4) (r_l6 : r64 l6) (hzP1 : zP1 < 2147483648) (h : Rec Q zP1 p1_row n_numbers n_weights n_weightsAhead n_grains n_placeFrom n_limit n_size n_parts n_found l2 l3 l4 l6), Ct X.l X.D X.cI X.cJ X.zt yX2_extend cX2_extend 13 none (4 + d0) 0 0 [.ref hX2, .ref aP1_row, .int (i32 l2), .int (i32 l3), .long (i64 l4), .long (i64 l6)] [(hX2, .inr (2, [.ref aX2_tried, .ref aX2_triedLeave, .ref aX2_numbers, .ref aX2_weights, .ref aX2_weightsAhead, .ref aX2_grains, .ref aX2_placeFrom, .ref aX2_first, .long (i64 n_barred), .int (i32 n_limit), .int (i32 n_size), .long (i64 n_parts), .long (i64 n_wanted), .int (i32 n_found)])), (aP1_row, aL X.cJ zP1 p1_row), (aX2_numbers, aI X.cI 60 n_numbers), (aX2_weights, aL X.cJ 60 n_weights), (aX2_weightsAhead, aL X.cJ 61 n_weightsAhead), (aX2_grains, aL X.cJ 61 n_grains), (aX2_placeFrom, aI X.cI 61 n_placeFrom)] (po_X2_extend X.cI X.cJ hX2 aX2_tried aX2_triedLeave aX2_numbers aX2_weights aX2_weightsAhead aX2_grains aX2_placeFrom aX2_first n_barred n_limit n_size n_parts n_wanted aP1_row zP1 n_numbers n_weights n_weightsAhead n_grains n_placeFrom Q)) (K_28 : (Int → Int) → Int → Int → Int → Int → Int → Prop) (hK_28 : ∀ (p1_row : Int → Int) (n_found : Int) (l2 : Int) (l4 : Int) (l6 : Int) (l8 : Int), rr64 p1_row → r32 n_found → r32 l2 → r64 l4 → r64 l6 → r32 l8 → K_28 p1_row n_found l2 l4 l6 l8 → Wat X 0 0 28 [(0, .ref hX2), (1, .ref aP1_row), (2, .int (i32 l2)), (4, .long (i64 l4)), (6, .long (i64 l6)), (8, .int (i32 l8))] [] [(hX2, .inr (2, [.ref aX2_tried, .ref aX2_triedLeave, .ref aX2_numbers, .ref aX2_weights, .ref aX2_weightsAhead, .ref aX2_grains, .ref aX2_placeFrom, .ref aX2_first, .long (i64 n_barred), .int (i32 n_limit), .int (i32 n_size), .long (i64 n_parts), .long (i64 n_wanted), .int (i32 n_found)])), (aP1_row, aL X.cJ zP1 p1_row), (aX2_numbers, aI X.cI 60 n_numbers), (aX2_weights, aL X.cJ 60 n_weights), (aX2_weightsAhead, aL X.cJ 61 n_weightsAhead), (aX2_grains, aL X.cJ 61 n_grains), (aX2_placeFrom, aI X.cI 61 n_placeFrom)]) : ∀ (p1_row : Int → Int) (n_found : Int) (l2 : Int) (l4 : Int) (l6 : Int) (l8 : Int), rr64 p1_row → r32 n_found → r32 l2 → r64 l4 → r64 l6 → r32 l8 → wp_X2_extend_119 Q Rec zP1 n_numbers n_weights n_weightsAhead n_grains n_placeFrom n_limit n_size n_parts K_28 p1_row n_found l2 l4 l6 l8 → Wat X 0 0 119 [(0, .ref hX2), (1, .ref aP1_row), (2, .int (i32 l2)), (4, .long (i64 l4)), (6, .long (i64 l6)), (8, .int (i32 l8))] [] [(hX2, .inr (2, [.ref aX2_tried, .ref aX2_triedLeave, .ref aX2_numbers, .ref aX2_weights, .ref aX2_weightsAhead, .ref aX2_grains, .ref aX2_placeFrom, .ref aX2_first, .long (i64 n_barred), .int (i32 n_limit), .int (i32 n_size), .long (i64 n_parts), .long (i64 n_wanted), .int (i32 n_found)])), (aP1_row, aL X.cJ zP1 p1_row), (aX2_numbers, aI X.cI 60 n_numbers), (aX2_weights, aL X.cJ 60 n_weights), (aX2_weightsAhead, aL X.cJ 61 n_weightsAhead), (aX2_grains, aL X.cJ 61 n_grains), (aX2_placeFrom, aI X.cI 61 n_placeFrom)] := by
  intro p1_row n_found l2 l4 l6 l8 r_p1_row r_n_found r_l2 r_l4 r_l6 r_l8 h
  rw [wp_X2_extend_119] at h
  obtain ⟨c119, h⟩ := h
  refine q_iinc (lv' := [(8, .int (i32 (l8 + 1))), (0, .ref hX2), (1, .ref aP1_row), (2, .int (i32 l2)), (4, .long (i64 l4)), (6, .long (i64 l6))]) g 8 5 1 (by decide) rfl rfl dX2_extend_119 ?_
  refine q_goto g (-94) 28 (by decide) dX2_extend_122 ?_
  refine q_lv (lv' := [(0, .ref hX2), (1, .ref aP1_row), (2, .int (i32 l2)), (4, .long (i64 l4)), (6, .long (i64 l6)), (8, .int (i32 (l8 + 1)))]) [1, 2, 3, 4, 5, 0] rfl ?_
  exact hK_28 p1_row n_found l2 l4 l6 (l8 + 1) r_p1_row r_n_found r_l2 r_l4 r_l6 c119 h
def wp_X2_extend_125 (Q : (Int → Int) → Int → Prop) (Rec : ((Int → Int) → Int → Prop) → Nat → (Int → Int) → (Int → Int) → (Int → Int) → (Int → Int) → (Int → Int) → (Int → Int) → Int → Int → Int → Int → Int → Int → Int → Int → Prop) (zP1 : Nat) (n_numbers : Int → Int) (n_weights : Int → Int) (n_weightsAhead : Int → Int) (n_grains : Int → Int) (n_placeFrom : Int → Int) (n_limit : Int) (n_size : Int) (n_parts : Int) (p1_row : Int → Int) (n_found : Int) : Prop := Q p1_row n_found
set_option maxHeartbeats 4000000 in
set_option maxRecDepth 100000 in
theorem s_X2_extend_125 {X : Cx} {d d0 : Nat} (hdd : d = d0 + 1) (g : Gd X cX2_extend RX2 none 13) (hR : X.R = rmL (4 + d) 0 0) (hX2 : Nat) (aX2_tried : Nat) (aX2_triedLeave : Nat) (aX2_numbers : Nat) (aX2_weights : Nat) (aX2_weightsAhead : Nat) (aX2_grains : Nat) (aX2_placeFrom : Nat) (aX2_first : Nat) (n_barred : Int) (n_wanted : Int) (aP1_row : Nat) (zP1 : Nat) (n_numbers : Int → Int) (n_weights : Int → Int) (n_weightsAhead : Int → Int) (n_grains : Int → Int) (n_placeFrom : Int → Int) (n_limit : Int) (n_size : Int) (n_parts : Int) (r_n_numbers : rr32 n_numbers) (r_n_weights : rr64 n_weights) (r_n_weightsAhead : rr64 n_weightsAhead) (r_n_grains : rr64 n_grains) (r_n_placeFrom : rr32 n_placeFrom) (r_n_limit : r32 n_limit) (r_n_size : r32 n_size) (r_n_parts : r64 n_parts) (hzP1 : zP1 < 2147483648) (Q : (Int → Int) → Int → Prop) (hF : FQ X 0 0 (po_X2_extend X.cI X.cJ hX2 aX2_tried aX2_triedLeave aX2_numbers aX2_weights aX2_weightsAhead aX2_grains aX2_placeFrom aX2_first n_barred n_limit n_size n_parts n_wanted aP1_row zP1 n_numbers n_weights n_weightsAhead n_grains n_placeFrom Q)) (Rec : ((Int → Int) → Int → Prop) → Nat → (Int → Int) → (Int → Int) → (Int → Int) → (Int → Int) → (Int → Int) → (Int → Int) → Int → Int → Int → Int → Int → Int → Int → Int → Prop) (hRec : ∀ (hX2 : Nat) (aX2_tried : Nat) (aX2_triedLeave : Nat) (aX2_numbers : Nat) (aX2_weights : Nat) (aX2_weightsAhead : Nat) (aX2_grains : Nat) (aX2_placeFrom : Nat) (aX2_first : Nat) (n_barred : Int) (n_limit : Int) (n_size : Int) (n_parts : Int) (n_wanted : Int) (n_found : Int) (aP1_row : Nat) (zP1 : Nat) (p1_row : Int → Int) (n_numbers : Int → Int) (n_weights : Int → Int) (n_weightsAhead : Int → Int) (n_grains : Int → Int) (n_placeFrom : Int → Int) (l2 : Int) (l3 : Int) (l4 : Int) (l6 : Int) (Q : (Int → Int) → Int → Prop) (r_p1_row : rr64 p1_row) (r_n_numbers : rr32 n_numbers) (r_n_weights : rr64 n_weights) (r_n_weightsAhead : rr64 n_weightsAhead) (r_n_grains : rr64 n_grains) (r_n_placeFrom : rr32 n_placeFrom) (r_n_limit : r32 n_limit) (r_n_size : r32 n_size) (r_n_parts : r64 n_parts) (r_n_found : r32 n_found) (r_l2 : r32 l2) (r_l3 : r32 l3) (r_l4 : r64 l4) (r_l6 : r64 l6) (hzP1 : zP1 < 2147483648) (h : Rec Q zP1 p1_row n_numbers n_weights n_weightsAhead n_grains n_placeFrom n_limit n_size n_parts n_found l2 l3 l4 l6), Ct X.l X.D X.cI X.cJ X.zt yX2_extend cX2_extend 13 none (4 + d0) 0 0 [.ref hX2, .ref aP1_row, .int (i32 l2), .int (i32 l3), .long (i64 l4), .long (i64 l6)] [(hX2, .inr (2, [.ref aX2_tried, .ref aX2_triedLeave, .ref aX2_numbers, .ref aX2_weights, .ref aX2_weightsAhead, .ref aX2_grains, .ref aX2_placeFrom, .ref aX2_first, .long (i64 n_barred), .int (i32 n_limit), .int (i32 n_size), .long (i64 n_parts), .long (i64 n_wanted), .int (i32 n_found)])), (aP1_row, aL X.cJ zP1 p1_row), (aX2_numbers, aI X.cI 60 n_numbers), (aX2_weights, aL X.cJ 60 n_weights), (aX2_weightsAhead, aL X.cJ 61 n_weightsAhead), (aX2_grains, aL X.cJ 61 n_grains), (aX2_placeFrom, aI X.cI 61 n_placeFrom)] (po_X2_extend X.cI X.cJ hX2 aX2_tried aX2_triedLeave aX2_numbers aX2_weights aX2_weightsAhead aX2_grains aX2_placeFrom aX2_first n_barred n_limit n_size n_parts n_wanted aP1_row zP1 n_numbers n_weights n_weightsAhead n_grains n_placeFrom Q)) : ∀ (p1_row : Int → Int) (n_found : Int), rr64 p1_row → r32 n_found → wp_X2_extend_125 Q Rec zP1 n_numbers n_weights n_weightsAhead n_grains n_placeFrom n_limit n_size n_parts p1_row n_found → Wat X 0 0 125 [] [] [(hX2, .inr (2, [.ref aX2_tried, .ref aX2_triedLeave, .ref aX2_numbers, .ref aX2_weights, .ref aX2_weightsAhead, .ref aX2_grains, .ref aX2_placeFrom, .ref aX2_first, .long (i64 n_barred), .int (i32 n_limit), .int (i32 n_size), .long (i64 n_parts), .long (i64 n_wanted), .int (i32 n_found)])), (aP1_row, aL X.cJ zP1 p1_row), (aX2_numbers, aI X.cI 60 n_numbers), (aX2_weights, aL X.cJ 60 n_weights), (aX2_weightsAhead, aL X.cJ 61 n_weightsAhead), (aX2_grains, aL X.cJ 61 n_grains), (aX2_placeFrom, aI X.cI 61 n_placeFrom)] := by
  intro p1_row n_found r_p1_row r_n_found h
  rw [wp_X2_extend_125] at h
  exact q_vret g hF ⟨p1_row, n_found, rfl, rfl, r_p1_row, r_n_found, h⟩ dX2_extend_125
def wp_X2_extend_28 (Q : (Int → Int) → Int → Prop) (Rec : ((Int → Int) → Int → Prop) → Nat → (Int → Int) → (Int → Int) → (Int → Int) → (Int → Int) → (Int → Int) → (Int → Int) → Int → Int → Int → Int → Int → Int → Int → Int → Prop) (zP1 : Nat) (n_numbers : Int → Int) (n_weights : Int → Int) (n_weightsAhead : Int → Int) (n_grains : Int → Int) (n_placeFrom : Int → Int) (n_limit : Int) (n_size : Int) (n_parts : Int) : Nat → (Int → Int) → Int → Int → Int → Int → Int → Prop
  | 0, _, _, _, _, _, _ => False
  | n + 1, p1_row, n_found, l2, l4, l6, l8 => ((n_size ≤ l8 → wp_X2_extend_125 Q Rec zP1 n_numbers n_weights n_weightsAhead n_grains n_placeFrom n_limit n_size n_parts p1_row n_found) ∧
  (¬ (n_size ≤ l8) → (((zP1 : Int) ≤ n_found → wp_X2_extend_125 Q Rec zP1 n_numbers n_weights n_weightsAhead n_grains n_placeFrom n_limit n_size n_parts p1_row n_found) ∧
  (¬ ((zP1 : Int) ≤ n_found) → wp_X2_canMake (fun (x52 : Int) => ((¬ x52 = 0 → (0 ≤ l8 ∧ l8 < 60 ∧ wp_X4_bit (fun (x68 : Int) => (∀ x72 : Int, x72 = (lor64 l6 x68) → 0 ≤ l8 ∧ l8 < 60 ∧ r64 (l4 - (n_weights l8)) ∧ ∀ x84 : Int, x84 = (l4 - (n_weights l8)) → ((¬ x84 = 0 → (r32 (l2 - 1) ∧ r32 (l8 + 1) ∧ Rec (fun (p1_row_116 : Int → Int) (n_found_116 : Int) => wp_X2_extend_119 Q Rec zP1 n_numbers n_weights n_weightsAhead n_grains n_placeFrom n_limit n_size n_parts (wp_X2_extend_28 Q Rec zP1 n_numbers n_weights n_weightsAhead n_grains n_placeFrom n_limit n_size n_parts n) p1_row_116 n_found_116 l2 l4 l6 l8) zP1 p1_row n_numbers n_weights n_weightsAhead n_grains n_placeFrom n_limit n_size n_parts n_found (l2 - 1) (l8 + 1) x84 x72)) ∧
  (x84 = 0 → wp_X2_keep (fun (p1_row_97 : Int → Int) (n_found_97 : Int) => wp_X2_extend_119 Q Rec zP1 n_numbers n_weights n_weightsAhead n_grains n_placeFrom n_limit n_size n_parts (wp_X2_extend_28 Q Rec zP1 n_numbers n_weights n_weightsAhead n_grains n_placeFrom n_limit n_size n_parts n) p1_row_97 n_found_97 l2 l4 l6 l8) zP1 p1_row n_found x72)))) (n_numbers l8))) ∧
  (x52 = 0 → Q p1_row n_found))) n_weightsAhead n_grains n_size l8 l2 l4))))
set_option maxHeartbeats 4000000 in
set_option maxRecDepth 100000 in
theorem s_X2_extend_28 {X : Cx} {d d0 : Nat} (hdd : d = d0 + 1) (g : Gd X cX2_extend RX2 none 13) (hR : X.R = rmL (4 + d) 0 0) (hX2 : Nat) (aX2_tried : Nat) (aX2_triedLeave : Nat) (aX2_numbers : Nat) (aX2_weights : Nat) (aX2_weightsAhead : Nat) (aX2_grains : Nat) (aX2_placeFrom : Nat) (aX2_first : Nat) (n_barred : Int) (n_wanted : Int) (aP1_row : Nat) (zP1 : Nat) (n_numbers : Int → Int) (n_weights : Int → Int) (n_weightsAhead : Int → Int) (n_grains : Int → Int) (n_placeFrom : Int → Int) (n_limit : Int) (n_size : Int) (n_parts : Int) (r_n_numbers : rr32 n_numbers) (r_n_weights : rr64 n_weights) (r_n_weightsAhead : rr64 n_weightsAhead) (r_n_grains : rr64 n_grains) (r_n_placeFrom : rr32 n_placeFrom) (r_n_limit : r32 n_limit) (r_n_size : r32 n_size) (r_n_parts : r64 n_parts) (hzP1 : zP1 < 2147483648) (Q : (Int → Int) → Int → Prop) (hF : FQ X 0 0 (po_X2_extend X.cI X.cJ hX2 aX2_tried aX2_triedLeave aX2_numbers aX2_weights aX2_weightsAhead aX2_grains aX2_placeFrom aX2_first n_barred n_limit n_size n_parts n_wanted aP1_row zP1 n_numbers n_weights n_weightsAhead n_grains n_placeFrom Q)) (Rec : ((Int → Int) → Int → Prop) → Nat → (Int → Int) → (Int → Int) → (Int → Int) → (Int → Int) → (Int → Int) → (Int → Int) → Int → Int → Int → Int → Int → Int → Int → Int → Prop) (hRec : ∀ (hX2 : Nat) (aX2_tried : Nat) (aX2_triedLeave : Nat) (aX2_numbers : Nat) (aX2_weights : Nat) (aX2_weightsAhead : Nat) (aX2_grains : Nat) (aX2_placeFrom : Nat) (aX2_first : Nat) (n_barred : Int) (n_limit : Int) (n_size : Int) (n_parts : Int) (n_wanted : Int) (n_found : Int) (aP1_row : Nat) (zP1 : Nat) (p1_row : Int → Int) (n_numbers : Int → Int) (n_weights : Int → Int) (n_weightsAhead : Int → Int) (n_grains : Int → Int) (n_placeFrom : Int → Int) (l2 : Int) (l3 : Int) (l4 : Int) (l6 : Int) (Q : (Int → Int) → Int → Prop) (r_p1_row : rr64 p1_row) (r_n_numbers : rr32 n_numbers) (r_n_weights : rr64 n_weights) (r_n_weightsAhead : rr64 n_weightsAhead) (r_n_grains : rr64 n_grains) (r_n_placeFrom : rr32 n_placeFrom) (r_n_limit : r32 n_limit) (r_n_size : r32 n_size) (r_n_parts : r64 n_parts) (r_n_found : r32 n_found) (r_l2 : r32 l2) (r_l3 : r32 l3) (r_l4 : r64 l4) (r_l6 : r64 l6) (hzP1 : zP1 < 2147483648) (h : Rec Q zP1 p1_row n_numbers n_weights n_weightsAhead n_grains n_placeFrom n_limit n_size n_parts n_found l2 l3 l4 l6), Ct X.l X.D X.cI X.cJ X.zt yX2_extend cX2_extend 13 none (4 + d0) 0 0 [.ref hX2, .ref aP1_row, .int (i32 l2), .int (i32 l3), .long (i64 l4), .long (i64 l6)] [(hX2, .inr (2, [.ref aX2_tried, .ref aX2_triedLeave, .ref aX2_numbers, .ref aX2_weights, .ref aX2_weightsAhead, .ref aX2_grains, .ref aX2_placeFrom, .ref aX2_first, .long (i64 n_barred), .int (i32 n_limit), .int (i32 n_size), .long (i64 n_parts), .long (i64 n_wanted), .int (i32 n_found)])), (aP1_row, aL X.cJ zP1 p1_row), (aX2_numbers, aI X.cI 60 n_numbers), (aX2_weights, aL X.cJ 60 n_weights), (aX2_weightsAhead, aL X.cJ 61 n_weightsAhead), (aX2_grains, aL X.cJ 61 n_grains), (aX2_placeFrom, aI X.cI 61 n_placeFrom)] (po_X2_extend X.cI X.cJ hX2 aX2_tried aX2_triedLeave aX2_numbers aX2_weights aX2_weightsAhead aX2_grains aX2_placeFrom aX2_first n_barred n_limit n_size n_parts n_wanted aP1_row zP1 n_numbers n_weights n_weightsAhead n_grains n_placeFrom Q)) : ∀ (n : Nat) (p1_row : Int → Int) (n_found : Int) (l2 : Int) (l4 : Int) (l6 : Int) (l8 : Int), rr64 p1_row → r32 n_found → r32 l2 → r64 l4 → r64 l6 → r32 l8 → wp_X2_extend_28 Q Rec zP1 n_numbers n_weights n_weightsAhead n_grains n_placeFrom n_limit n_size n_parts n p1_row n_found l2 l4 l6 l8 → Wat X 0 0 28 [(0, .ref hX2), (1, .ref aP1_row), (2, .int (i32 l2)), (4, .long (i64 l4)), (6, .long (i64 l6)), (8, .int (i32 l8))] [] [(hX2, .inr (2, [.ref aX2_tried, .ref aX2_triedLeave, .ref aX2_numbers, .ref aX2_weights, .ref aX2_weightsAhead, .ref aX2_grains, .ref aX2_placeFrom, .ref aX2_first, .long (i64 n_barred), .int (i32 n_limit), .int (i32 n_size), .long (i64 n_parts), .long (i64 n_wanted), .int (i32 n_found)])), (aP1_row, aL X.cJ zP1 p1_row), (aX2_numbers, aI X.cI 60 n_numbers), (aX2_weights, aL X.cJ 60 n_weights), (aX2_weightsAhead, aL X.cJ 61 n_weightsAhead), (aX2_grains, aL X.cJ 61 n_grains), (aX2_placeFrom, aI X.cI 61 n_placeFrom)] := by
  intro n
  induction n with
  | zero => intro p1_row n_found l2 l4 l6 l8 r_p1_row r_n_found r_l2 r_l4 r_l6 r_l8 h; exact False.elim h
  | succ n ih =>
    intro p1_row n_found l2 l4 l6 l8 r_p1_row r_n_found r_l2 r_l4 r_l6 r_l8 h
    rw [wp_X2_extend_28] at h
    refine q_iload g 8 5 rfl dX2_extend_28 ?_
    refine q_aload_n g 0 0 rfl dX2_extend_30 ?_
    refine q_get (C := RX2) (T := TX2) (N := 14) g 49 inX2 0 10 rfl rfl (by decide) wF_X2_49 rfl dX2_extend_31 ?_
    refine q_icmp_ge g (91) 125 r_l8 r_n_size (by decide) dX2_extend_34 (fun b34 => ?_) (fun b34 => ?_)
    · replace h := h.1 b34
      refine q_lv (lv' := []) [] rfl ?_
      exact s_X2_extend_125 hdd g hR hX2 aX2_tried aX2_triedLeave aX2_numbers aX2_weights aX2_weightsAhead aX2_grains aX2_placeFrom aX2_first n_barred n_wanted aP1_row zP1 n_numbers n_weights n_weightsAhead n_grains n_placeFrom n_limit n_size n_parts r_n_numbers r_n_weights r_n_weightsAhead r_n_grains r_n_placeFrom r_n_limit r_n_size r_n_parts hzP1 Q hF Rec hRec p1_row n_found r_p1_row r_n_found h
    replace h := h.2 b34
    refine q_aload_n g 0 0 rfl dX2_extend_37 ?_
    refine q_get (C := RX2) (T := TX2) (N := 14) g 73 inX2 0 13 rfl rfl (by decide) wF_X2_73 rfl dX2_extend_38 ?_
    refine q_aload_n g 1 1 rfl dX2_extend_41 ?_
    refine q_alenL g 1 (zP1 : Int) rfl rfl dX2_extend_42 ?_
    refine q_icmp_ge g (82) 125 r_n_found (zrng hzP1) (by decide) dX2_extend_43 (fun b43 => ?_) (fun b43 => ?_)
    · replace h := h.1 b43
      refine q_lv (lv' := []) [] rfl ?_
      exact s_X2_extend_125 hdd g hR hX2 aX2_tried aX2_triedLeave aX2_numbers aX2_weights aX2_weightsAhead aX2_grains aX2_placeFrom aX2_first n_barred n_wanted aP1_row zP1 n_numbers n_weights n_weightsAhead n_grains n_placeFrom n_limit n_size n_parts r_n_numbers r_n_weights r_n_weightsAhead r_n_grains r_n_placeFrom r_n_limit r_n_size r_n_parts hzP1 Q hF Rec hRec p1_row n_found r_p1_row r_n_found h
    replace h := h.2 b43
    refine q_aload_n g 0 0 rfl dX2_extend_46 ?_
    refine q_iload g 8 5 rfl dX2_extend_47 ?_
    refine q_iload_n g 2 2 rfl dX2_extend_49 ?_
    refine q_lload g 4 3 rfl dX2_extend_50 ?_
    refine q_callV (lev := 2) (mc := 0) (ms := 0) g 133 (c_X2_canMake X.l X.D X.cI X.cJ X.zt hX2 aX2_tried aX2_triedLeave aX2_numbers aX2_weights aX2_weightsAhead aX2_grains aX2_placeFrom aX2_first n_barred n_limit n_size n_parts n_wanted n_found n_weightsAhead n_grains l8 l2 l4 _ r_n_weightsAhead r_n_grains r_n_size r_l8 r_l2 r_l4 h) (wr := [(aP1_row, aL X.cJ zP1 p1_row), (aX2_numbers, aI X.cI 60 n_numbers), (aX2_weights, aL X.cJ 60 n_weights), (aX2_placeFrom, aI X.cI 61 n_placeFrom)]) [0, 4, 5] [1, 2, 3, 6] rfl rfl rfl (by decide) (by decide) (by decide) (ci := 2) rfl rfl rfl wM_X2_133 wI_X2_canMake wS_X2_canMake wZ_X2 wC_X2_canMake 3 rfl (by decide +kernel) (by rw [hR]; exact ⟨by show 2 + 1 ≤ (4 + d); omega, by show 8 + (6 + 11) + 100 * 2 ≤ 100 * (4 + d); omega⟩) (by rw [hR]; exact ⟨Nat.le_refl _, Nat.le_refl _⟩) (Nat.le_of_ble_eq_true rfl) rfl dX2_extend_52 (fun rv w1 hq => ?_)
    obtain ⟨x52, rfl, rfl, rx52, h⟩ := hq
    refine q_ws (ws' := [(hX2, .inr (2, [.ref aX2_tried, .ref aX2_triedLeave, .ref aX2_numbers, .ref aX2_weights, .ref aX2_weightsAhead, .ref aX2_grains, .ref aX2_placeFrom, .ref aX2_first, .long (i64 n_barred), .int (i32 n_limit), .int (i32 n_size), .long (i64 n_parts), .long (i64 n_wanted), .int (i32 n_found)])), (aP1_row, aL X.cJ zP1 p1_row), (aX2_numbers, aI X.cI 60 n_numbers), (aX2_weights, aL X.cJ 60 n_weights), (aX2_weightsAhead, aL X.cJ 61 n_weightsAhead), (aX2_grains, aL X.cJ 61 n_grains), (aX2_placeFrom, aI X.cI 61 n_placeFrom)]) [4, 0, 1, 2, 5, 6, 3] (by decide) rfl rfl ?_
    show Wat X 0 0 55 [(0, .ref hX2), (1, .ref aP1_row), (2, .int (i32 l2)), (4, .long (i64 l4)), (6, .long (i64 l6)), (8, .int (i32 l8))] [.int (i32 x52)] [(hX2, .inr (2, [.ref aX2_tried, .ref aX2_triedLeave, .ref aX2_numbers, .ref aX2_weights, .ref aX2_weightsAhead, .ref aX2_grains, .ref aX2_placeFrom, .ref aX2_first, .long (i64 n_barred), .int (i32 n_limit), .int (i32 n_size), .long (i64 n_parts), .long (i64 n_wanted), .int (i32 n_found)])), (aP1_row, aL X.cJ zP1 p1_row), (aX2_numbers, aI X.cI 60 n_numbers), (aX2_weights, aL X.cJ 60 n_weights), (aX2_weightsAhead, aL X.cJ 61 n_weightsAhead), (aX2_grains, aL X.cJ 61 n_grains), (aX2_placeFrom, aI X.cI 61 n_placeFrom)]
    refine q_if_ne g (4) 59 rx52 (by decide) dX2_extend_55 (fun b55 => ?_) (fun b55 => ?_)
    · replace h := h.1 b55
      refine q_lload g 6 4 rfl dX2_extend_59 ?_
      refine q_aload_n g 0 0 rfl dX2_extend_61 ?_
      refine q_get (C := RX2) (T := TX2) (N := 14) g 21 inX2 0 2 rfl rfl (by decide) wF_X2_21 rfl dX2_extend_62 ?_
      refine q_iload g 8 5 rfl dX2_extend_65 ?_
      obtain ⟨c67, h⟩ := h
      obtain ⟨e67, h⟩ := h
      refine q_iald g 2 rfl c67 e67 (by decide) dX2_extend_67 ?_
      refine q_callS (lev := 1) (mc := 0) (ms := 0) (As := [.int (i32 (n_numbers l8))]) g 113 (c_X4_bit X.l X.D X.cI X.cJ X.zt (n_numbers l8) _ (r_n_numbers _) h) (wr := [(hX2, .inr (2, [.ref aX2_tried, .ref aX2_triedLeave, .ref aX2_numbers, .ref aX2_weights, .ref aX2_weightsAhead, .ref aX2_grains, .ref aX2_placeFrom, .ref aX2_first, .long (i64 n_barred), .int (i32 n_limit), .int (i32 n_size), .long (i64 n_parts), .long (i64 n_wanted), .int (i32 n_found)])), (aP1_row, aL X.cJ zP1 p1_row), (aX2_numbers, aI X.cI 60 n_numbers), (aX2_weights, aL X.cJ 60 n_weights), (aX2_weightsAhead, aL X.cJ 61 n_weightsAhead), (aX2_grains, aL X.cJ 61 n_grains), (aX2_placeFrom, aI X.cI 61 n_placeFrom)]) [] [0, 1, 2, 3, 4, 5, 6] rfl rfl rfl (by decide) (by decide) (by decide) wM_X2_113 wT_X4_bit wZ_X4 wC_X4_bit 1 rfl (by decide +kernel) (by rw [hR]; exact ⟨by show 1 + 1 ≤ (4 + d); omega, by show 8 + (1 + 11) + 100 * 1 ≤ 100 * (4 + d); omega⟩) (by rw [hR]; exact ⟨Nat.le_refl _, Nat.le_refl _⟩) (Nat.le_of_ble_eq_true rfl) rfl dX2_extend_68 (fun rv w1 hq => ?_)
      obtain ⟨x68, rfl, rfl, rx68, h⟩ := hq
      show Wat X 0 0 71 [(0, .ref hX2), (1, .ref aP1_row), (2, .int (i32 l2)), (4, .long (i64 l4)), (6, .long (i64 l6)), (8, .int (i32 l8))] [.long (i64 x68), .long (i64 l6)] [(hX2, .inr (2, [.ref aX2_tried, .ref aX2_triedLeave, .ref aX2_numbers, .ref aX2_weights, .ref aX2_weightsAhead, .ref aX2_grains, .ref aX2_placeFrom, .ref aX2_first, .long (i64 n_barred), .int (i32 n_limit), .int (i32 n_size), .long (i64 n_parts), .long (i64 n_wanted), .int (i32 n_found)])), (aP1_row, aL X.cJ zP1 p1_row), (aX2_numbers, aI X.cI 60 n_numbers), (aX2_weights, aL X.cJ 60 n_weights), (aX2_weightsAhead, aL X.cJ 61 n_weightsAhead), (aX2_grains, aL X.cJ 61 n_grains), (aX2_placeFrom, aI X.cI 61 n_placeFrom)]
      refine q_lor g dX2_extend_71 ?_
      refine q_topl (r_lor64 _ _) (fun x72 ex72 rx72 => ?_)
      replace h := h x72 ex72
      refine q_lstore (lv' := [(9, .long (i64 x72)), (0, .ref hX2), (1, .ref aP1_row), (2, .int (i32 l2)), (4, .long (i64 l4)), (6, .long (i64 l6)), (8, .int (i32 l8))]) g 9   (by decide) rfl dX2_extend_72 ?_
      refine q_lload g 4 4 rfl dX2_extend_74 ?_
      refine q_aload_n g 0 1 rfl dX2_extend_76 ?_
      refine q_get (C := RX2) (T := TX2) (N := 14) g 24 inX2 0 3 rfl rfl (by decide) wF_X2_24 rfl dX2_extend_77 ?_
      refine q_iload g 8 6 rfl dX2_extend_80 ?_
      obtain ⟨c82, h⟩ := h
      obtain ⟨e82, h⟩ := h
      refine q_lald g 3 rfl c82 e82 (by decide) dX2_extend_82 ?_
      obtain ⟨c83, h⟩ := h
      refine q_lsub g dX2_extend_83 ?_
      refine q_topl c83 (fun x84 ex84 rx84 => ?_)
      replace h := h x84 ex84
      refine q_lstore (lv' := [(11, .long (i64 x84)), (9, .long (i64 x72)), (0, .ref hX2), (1, .ref aP1_row), (2, .int (i32 l2)), (4, .long (i64 l4)), (6, .long (i64 l6)), (8, .int (i32 l8))]) g 11   (by decide) rfl dX2_extend_84 ?_
      refine q_lload g 11 0 rfl dX2_extend_86 ?_
      refine q_lconst g 0 0 rfl dX2_extend_88 ?_
      refine q_lcmp_ne g (13) 103 rx84 (r64_lit _ (by decide)) (by decide) dX2_extend_89 dX2_extend_90 (fun b89 => ?_) (fun b89 => ?_)
      · replace h := h.1 b89
        refine q_aload_n g 0 2 rfl dX2_extend_103 ?_
        refine q_aload_n g 1 3 rfl dX2_extend_104 ?_
        refine q_iload_n g 2 4 rfl dX2_extend_105 ?_
        refine q_iconst g (1) dX2_extend_106 ?_
        obtain ⟨c107, h⟩ := h
        refine q_isub g dX2_extend_107 ?_
        refine q_iload g 8 7 rfl dX2_extend_108 ?_
        refine q_iconst g (1) dX2_extend_110 ?_
        obtain ⟨c111, h⟩ := h
        refine q_iadd g dX2_extend_111 ?_
        refine q_lload g 11 0 rfl dX2_extend_112 ?_
        refine q_lload g 9 1 rfl dX2_extend_114 ?_
        refine q_callS (lev := (4 + d0)) (mc := 0) (ms := 0) (As := [.ref hX2, .ref aP1_row, .int (i32 (l2 - 1)), .int (i32 (l8 + 1)), .long (i64 x84), .long (i64 x72)]) g 76 (hRec hX2 aX2_tried aX2_triedLeave aX2_numbers aX2_weights aX2_weightsAhead aX2_grains aX2_placeFrom aX2_first n_barred n_limit n_size n_parts n_wanted n_found aP1_row zP1 p1_row n_numbers n_weights n_weightsAhead n_grains n_placeFrom (l2 - 1) (l8 + 1) x84 x72 _ r_p1_row r_n_numbers r_n_weights r_n_weightsAhead r_n_grains r_n_placeFrom r_n_limit r_n_size r_n_parts r_n_found c107 c111 rx84 rx72 hzP1 h) (wr := []) [0, 1, 2, 3, 4, 5, 6] [] rfl rfl rfl (by decide) (by decide) (by decide) wM_X2_76 wT_X2_extend wZ_X2 wC_X2_extend 6 rfl (by decide +kernel) (by rw [hR]; exact ⟨by show (4 + d0) + 1 ≤ (4 + d); omega, by show 8 + (13 + 11) + 100 * (4 + d0) ≤ 100 * (4 + d); omega⟩) (by rw [hR]; exact ⟨Nat.le_refl _, Nat.le_refl _⟩) (Nat.le_of_ble_eq_true rfl) rfl dX2_extend_116 (fun rv w1 hq => ?_)
        obtain ⟨p1_row_116, n_found_116, rfl, rfl, rp1_row_116, rn_found_116, h⟩ := hq
        show Wat X 0 0 119 [(11, .long (i64 x84)), (9, .long (i64 x72)), (0, .ref hX2), (1, .ref aP1_row), (2, .int (i32 l2)), (4, .long (i64 l4)), (6, .long (i64 l6)), (8, .int (i32 l8))] [] [(hX2, .inr (2, [.ref aX2_tried, .ref aX2_triedLeave, .ref aX2_numbers, .ref aX2_weights, .ref aX2_weightsAhead, .ref aX2_grains, .ref aX2_placeFrom, .ref aX2_first, .long (i64 n_barred), .int (i32 n_limit), .int (i32 n_size), .long (i64 n_parts), .long (i64 n_wanted), .int (i32 n_found_116)])), (aP1_row, aL X.cJ zP1 p1_row_116), (aX2_numbers, aI X.cI 60 n_numbers), (aX2_weights, aL X.cJ 60 n_weights), (aX2_weightsAhead, aL X.cJ 61 n_weightsAhead), (aX2_grains, aL X.cJ 61 n_grains), (aX2_placeFrom, aI X.cI 61 n_placeFrom)]
        refine q_lv (lv' := [(0, .ref hX2), (1, .ref aP1_row), (2, .int (i32 l2)), (4, .long (i64 l4)), (6, .long (i64 l6)), (8, .int (i32 l8))]) [2, 3, 4, 5, 6, 7] rfl ?_
        exact s_X2_extend_119 hdd g hR hX2 aX2_tried aX2_triedLeave aX2_numbers aX2_weights aX2_weightsAhead aX2_grains aX2_placeFrom aX2_first n_barred n_wanted aP1_row zP1 n_numbers n_weights n_weightsAhead n_grains n_placeFrom n_limit n_size n_parts r_n_numbers r_n_weights r_n_weightsAhead r_n_grains r_n_placeFrom r_n_limit r_n_size r_n_parts hzP1 Q hF Rec hRec (wp_X2_extend_28 Q Rec zP1 n_numbers n_weights n_weightsAhead n_grains n_placeFrom n_limit n_size n_parts n) (fun v0 v1 v2 v3 v4 v5 w0 w1 w2 w3 w4 w5 hh => ih v0 v1 v2 v3 v4 v5 w0 w1 w2 w3 w4 w5 hh) p1_row_116 n_found_116 l2 l4 l6 l8 rp1_row_116 rn_found_116 r_l2 r_l4 r_l6 r_l8 h
      replace h := h.2 b89
      refine q_aload_n g 0 2 rfl dX2_extend_93 ?_
      refine q_aload_n g 1 3 rfl dX2_extend_94 ?_
      refine q_lload g 9 1 rfl dX2_extend_95 ?_
      refine q_callV (lev := 1) (mc := 0) (ms := 0) g 137 (c_X2_keep X.l X.D X.cI X.cJ X.zt hX2 aX2_tried aX2_triedLeave aX2_numbers aX2_weights aX2_weightsAhead aX2_grains aX2_placeFrom aX2_first n_barred n_limit n_size n_parts n_wanted n_found aP1_row zP1 p1_row x72 _ r_p1_row r_n_found rx72 hzP1 h) (wr := [(aX2_numbers, aI X.cI 60 n_numbers), (aX2_weights, aL X.cJ 60 n_weights), (aX2_weightsAhead, aL X.cJ 61 n_weightsAhead), (aX2_grains, aL X.cJ 61 n_grains), (aX2_placeFrom, aI X.cI 61 n_placeFrom)]) [0, 1] [2, 3, 4, 5, 6] rfl rfl rfl (by decide) (by decide) (by decide) (ci := 2) rfl rfl rfl wM_X2_137 wI_X2_keep wS_X2_keep wZ_X2 wC_X2_keep 2 rfl (by decide +kernel) (by rw [hR]; exact ⟨by show 1 + 1 ≤ (4 + d); omega, by show 8 + (4 + 11) + 100 * 1 ≤ 100 * (4 + d); omega⟩) (by rw [hR]; exact ⟨Nat.le_refl _, Nat.le_refl _⟩) (Nat.le_of_ble_eq_true rfl) rfl dX2_extend_97 (fun rv w1 hq => ?_)
      obtain ⟨p1_row_97, n_found_97, rfl, rfl, rp1_row_97, rn_found_97, h⟩ := hq
      refine q_ws (ws' := [(hX2, .inr (2, [.ref aX2_tried, .ref aX2_triedLeave, .ref aX2_numbers, .ref aX2_weights, .ref aX2_weightsAhead, .ref aX2_grains, .ref aX2_placeFrom, .ref aX2_first, .long (i64 n_barred), .int (i32 n_limit), .int (i32 n_size), .long (i64 n_parts), .long (i64 n_wanted), .int (i32 n_found_97)])), (aP1_row, aL X.cJ zP1 p1_row_97), (aX2_numbers, aI X.cI 60 n_numbers), (aX2_weights, aL X.cJ 60 n_weights), (aX2_weightsAhead, aL X.cJ 61 n_weightsAhead), (aX2_grains, aL X.cJ 61 n_grains), (aX2_placeFrom, aI X.cI 61 n_placeFrom)]) [5, 6, 0, 1, 2, 3, 4] (by decide) rfl rfl ?_
      show Wat X 0 0 100 [(11, .long (i64 x84)), (9, .long (i64 x72)), (0, .ref hX2), (1, .ref aP1_row), (2, .int (i32 l2)), (4, .long (i64 l4)), (6, .long (i64 l6)), (8, .int (i32 l8))] [] [(hX2, .inr (2, [.ref aX2_tried, .ref aX2_triedLeave, .ref aX2_numbers, .ref aX2_weights, .ref aX2_weightsAhead, .ref aX2_grains, .ref aX2_placeFrom, .ref aX2_first, .long (i64 n_barred), .int (i32 n_limit), .int (i32 n_size), .long (i64 n_parts), .long (i64 n_wanted), .int (i32 n_found_97)])), (aP1_row, aL X.cJ zP1 p1_row_97), (aX2_numbers, aI X.cI 60 n_numbers), (aX2_weights, aL X.cJ 60 n_weights), (aX2_weightsAhead, aL X.cJ 61 n_weightsAhead), (aX2_grains, aL X.cJ 61 n_grains), (aX2_placeFrom, aI X.cI 61 n_placeFrom)]
      refine q_goto g (19) 119 (by decide) dX2_extend_100 ?_
      refine q_lv (lv' := [(0, .ref hX2), (1, .ref aP1_row), (2, .int (i32 l2)), (4, .long (i64 l4)), (6, .long (i64 l6)), (8, .int (i32 l8))]) [2, 3, 4, 5, 6, 7] rfl ?_
      exact s_X2_extend_119 hdd g hR hX2 aX2_tried aX2_triedLeave aX2_numbers aX2_weights aX2_weightsAhead aX2_grains aX2_placeFrom aX2_first n_barred n_wanted aP1_row zP1 n_numbers n_weights n_weightsAhead n_grains n_placeFrom n_limit n_size n_parts r_n_numbers r_n_weights r_n_weightsAhead r_n_grains r_n_placeFrom r_n_limit r_n_size r_n_parts hzP1 Q hF Rec hRec (wp_X2_extend_28 Q Rec zP1 n_numbers n_weights n_weightsAhead n_grains n_placeFrom n_limit n_size n_parts n) (fun v0 v1 v2 v3 v4 v5 w0 w1 w2 w3 w4 w5 hh => ih v0 v1 v2 v3 v4 v5 w0 w1 w2 w3 w4 w5 hh) p1_row_97 n_found_97 l2 l4 l6 l8 rp1_row_97 rn_found_97 r_l2 r_l4 r_l6 r_l8 h
    replace h := h.2 b55
    exact q_vret g hF ⟨p1_row, n_found, rfl, rfl, r_p1_row, r_n_found, h⟩ dX2_extend_58
def wp_X2_extend : Nat → ((Int → Int) → Int → Prop) → Nat → (Int → Int) → (Int → Int) → (Int → Int) → (Int → Int) → (Int → Int) → (Int → Int) → Int → Int → Int → Int → Int → Int → Int → Int → Prop
  | 0, _, _, _, _, _, _, _, _, _, _, _, _, _, _, _, _ => False
  | d + 1, Q, zP1, p1_row, n_numbers, n_weights, n_weightsAhead, n_grains, n_placeFrom, n_limit, n_size, n_parts, n_found, l2, l3, l4, l6 => ((1 < l2 → wp_X2_firstNotAbove (fun (x20 : Int) => (∀ x26 : Int, x26 = (max l3 x20) → (∃ n0 : Nat, wp_X2_extend_28 Q (wp_X2_extend d) zP1 n_numbers n_weights n_weightsAhead n_grains n_placeFrom n_limit n_size n_parts n0 p1_row n_found l2 l4 l6 x26))) n_placeFrom n_limit n_size n_parts l4) ∧
  (¬ (1 < l2) → wp_X2_endWith (fun (p1_row_12 : Int → Int) (n_found_12 : Int) => Q p1_row_12 n_found_12) zP1 p1_row n_numbers n_weights n_placeFrom n_limit n_size n_parts n_found l3 l4 l6))
set_option maxHeartbeats 4000000 in
set_option maxRecDepth 100000 in
theorem c_X2_extend (l : Launch) (D : va_G) (cI cJ : ClassId) (zt : Nat) : ∀ (d : Nat) (hX2 : Nat) (aX2_tried : Nat) (aX2_triedLeave : Nat) (aX2_numbers : Nat) (aX2_weights : Nat) (aX2_weightsAhead : Nat) (aX2_grains : Nat) (aX2_placeFrom : Nat) (aX2_first : Nat) (n_barred : Int) (n_limit : Int) (n_size : Int) (n_parts : Int) (n_wanted : Int) (n_found : Int) (aP1_row : Nat) (zP1 : Nat) (p1_row : Int → Int) (n_numbers : Int → Int) (n_weights : Int → Int) (n_weightsAhead : Int → Int) (n_grains : Int → Int) (n_placeFrom : Int → Int) (l2 : Int) (l3 : Int) (l4 : Int) (l6 : Int) (Q : (Int → Int) → Int → Prop) (r_p1_row : rr64 p1_row) (r_n_numbers : rr32 n_numbers) (r_n_weights : rr64 n_weights) (r_n_weightsAhead : rr64 n_weightsAhead) (r_n_grains : rr64 n_grains) (r_n_placeFrom : rr32 n_placeFrom) (r_n_limit : r32 n_limit) (r_n_size : r32 n_size) (r_n_parts : r64 n_parts) (r_n_found : r32 n_found) (r_l2 : r32 l2) (r_l3 : r32 l3) (r_l4 : r64 l4) (r_l6 : r64 l6) (hzP1 : zP1 < 2147483648) (h : wp_X2_extend d Q zP1 p1_row n_numbers n_weights n_weightsAhead n_grains n_placeFrom n_limit n_size n_parts n_found l2 l3 l4 l6), Ct l D cI cJ zt yX2_extend cX2_extend 13 none (4 + d) 0 0 [.ref hX2, .ref aP1_row, .int (i32 l2), .int (i32 l3), .long (i64 l4), .long (i64 l6)] [(hX2, .inr (2, [.ref aX2_tried, .ref aX2_triedLeave, .ref aX2_numbers, .ref aX2_weights, .ref aX2_weightsAhead, .ref aX2_grains, .ref aX2_placeFrom, .ref aX2_first, .long (i64 n_barred), .int (i32 n_limit), .int (i32 n_size), .long (i64 n_parts), .long (i64 n_wanted), .int (i32 n_found)])), (aP1_row, aL cJ zP1 p1_row), (aX2_numbers, aI cI 60 n_numbers), (aX2_weights, aL cJ 60 n_weights), (aX2_weightsAhead, aL cJ 61 n_weightsAhead), (aX2_grains, aL cJ 61 n_grains), (aX2_placeFrom, aI cI 61 n_placeFrom)] (po_X2_extend cI cJ hX2 aX2_tried aX2_triedLeave aX2_numbers aX2_weights aX2_weightsAhead aX2_grains aX2_placeFrom aX2_first n_barred n_limit n_size n_parts n_wanted aP1_row zP1 n_numbers n_weights n_weightsAhead n_grains n_placeFrom Q) := by
  intro d
  induction d with
  | zero => intro hX2 aX2_tried aX2_triedLeave aX2_numbers aX2_weights aX2_weightsAhead aX2_grains aX2_placeFrom aX2_first n_barred n_limit n_size n_parts n_wanted n_found aP1_row zP1 p1_row n_numbers n_weights n_weightsAhead n_grains n_placeFrom l2 l3 l4 l6 Q r_p1_row r_n_numbers r_n_weights r_n_weightsAhead r_n_grains r_n_placeFrom r_n_limit r_n_size r_n_parts r_n_found r_l2 r_l3 r_l4 r_l6 hzP1 h; exact False.elim h
  | succ d0 ihd =>
    intro hX2 aX2_tried aX2_triedLeave aX2_numbers aX2_weights aX2_weightsAhead aX2_grains aX2_placeFrom aX2_first n_barred n_limit n_size n_parts n_wanted n_found aP1_row zP1 p1_row n_numbers n_weights n_weightsAhead n_grains n_placeFrom l2 l3 l4 l6 Q r_p1_row r_n_numbers r_n_weights r_n_weightsAhead r_n_grains r_n_placeFrom r_n_limit r_n_size r_n_parts r_n_found r_l2 r_l3 r_l4 r_l6 hzP1 h
    refine ct_of (by decide +kernel) (Nat.le_of_ble_eq_true rfl) (fun X hl hDD hcI hcJ hzt hR hF hnm g => ?_)
    subst hl; subst hDD; subst hcI; subst hcJ; subst hzt
    show Wat X 0 0 0 [(0, .ref hX2), (1, .ref aP1_row), (2, .int (i32 l2)), (3, .int (i32 l3)), (4, .long (i64 l4)), (6, .long (i64 l6))] [] [(hX2, .inr (2, [.ref aX2_tried, .ref aX2_triedLeave, .ref aX2_numbers, .ref aX2_weights, .ref aX2_weightsAhead, .ref aX2_grains, .ref aX2_placeFrom, .ref aX2_first, .long (i64 n_barred), .int (i32 n_limit), .int (i32 n_size), .long (i64 n_parts), .long (i64 n_wanted), .int (i32 n_found)])), (aP1_row, aL X.cJ zP1 p1_row), (aX2_numbers, aI X.cI 60 n_numbers), (aX2_weights, aL X.cJ 60 n_weights), (aX2_weightsAhead, aL X.cJ 61 n_weightsAhead), (aX2_grains, aL X.cJ 61 n_grains), (aX2_placeFrom, aI X.cI 61 n_placeFrom)]
    replace g : Gd X cX2_extend RX2 none 13 := g
    rw [wp_X2_extend] at h
    refine q_iload_n g 2 2 rfl dX2_extend_0 ?_
    refine q_iconst g (1) dX2_extend_1 ?_
    refine q_icmp_gt g (14) 16 r_l2 (r32_lit _ (by decide)) (by decide) dX2_extend_2 (fun b2 => ?_) (fun b2 => ?_)
    · replace h := h.1 b2
      refine q_iload_n g 3 3 rfl dX2_extend_16 ?_
      refine q_aload_n g 0 0 rfl dX2_extend_17 ?_
      refine q_lload g 4 4 rfl dX2_extend_18 ?_
      refine q_callV (lev := 2) (mc := 0) (ms := 0) g 126 (c_X2_firstNotAbove X.l X.D X.cI X.cJ X.zt hX2 aX2_tried aX2_triedLeave aX2_numbers aX2_weights aX2_weightsAhead aX2_grains aX2_placeFrom aX2_first n_barred n_limit n_size n_parts n_wanted n_found n_placeFrom l4 _ r_n_placeFrom r_n_limit r_n_size r_n_parts r_l4 h) (wr := [(aP1_row, aL X.cJ zP1 p1_row), (aX2_numbers, aI X.cI 60 n_numbers), (aX2_weights, aL X.cJ 60 n_weights), (aX2_weightsAhead, aL X.cJ 61 n_weightsAhead), (aX2_grains, aL X.cJ 61 n_grains)]) [0, 6] [1, 2, 3, 4, 5] rfl rfl rfl (by decide) (by decide) (by decide) (ci := 2) rfl rfl rfl wM_X2_126 wI_X2_firstNotAbove wS_X2_firstNotAbove wZ_X2 wC_X2_firstNotAbove 1 rfl (by decide +kernel) (by rw [hR]; exact ⟨by show 2 + 1 ≤ (4 + (d0 + 1)); omega, by show 8 + (5 + 11) + 100 * 2 ≤ 100 * (4 + (d0 + 1)); omega⟩) (by rw [hR]; exact ⟨Nat.le_refl _, Nat.le_refl _⟩) (Nat.le_of_ble_eq_true rfl) rfl dX2_extend_20 (fun rv w1 hq => ?_)
      obtain ⟨x20, rfl, rfl, rx20, h⟩ := hq
      refine q_ws (ws' := [(hX2, .inr (2, [.ref aX2_tried, .ref aX2_triedLeave, .ref aX2_numbers, .ref aX2_weights, .ref aX2_weightsAhead, .ref aX2_grains, .ref aX2_placeFrom, .ref aX2_first, .long (i64 n_barred), .int (i32 n_limit), .int (i32 n_size), .long (i64 n_parts), .long (i64 n_wanted), .int (i32 n_found)])), (aP1_row, aL X.cJ zP1 p1_row), (aX2_numbers, aI X.cI 60 n_numbers), (aX2_weights, aL X.cJ 60 n_weights), (aX2_weightsAhead, aL X.cJ 61 n_weightsAhead), (aX2_grains, aL X.cJ 61 n_grains), (aX2_placeFrom, aI X.cI 61 n_placeFrom)]) [5, 0, 1, 2, 3, 4, 6] (by decide) rfl rfl ?_
      show Wat X 0 0 23 [(0, .ref hX2), (1, .ref aP1_row), (2, .int (i32 l2)), (3, .int (i32 l3)), (4, .long (i64 l4)), (6, .long (i64 l6))] [.int (i32 x20), .int (i32 l3)] [(hX2, .inr (2, [.ref aX2_tried, .ref aX2_triedLeave, .ref aX2_numbers, .ref aX2_weights, .ref aX2_weightsAhead, .ref aX2_grains, .ref aX2_placeFrom, .ref aX2_first, .long (i64 n_barred), .int (i32 n_limit), .int (i32 n_size), .long (i64 n_parts), .long (i64 n_wanted), .int (i32 n_found)])), (aP1_row, aL X.cJ zP1 p1_row), (aX2_numbers, aI X.cI 60 n_numbers), (aX2_weights, aL X.cJ 60 n_weights), (aX2_weightsAhead, aL X.cJ 61 n_weightsAhead), (aX2_grains, aL X.cJ 61 n_grains), (aX2_placeFrom, aI X.cI 61 n_placeFrom)]
      refine q_mmaxI g 130 r_l3 rx20 wM_X2_130 wT_J9_max_7cf53 wZ_J9 wC_J9_max_7cf53 (by rw [hR]; exact ⟨by show 1 ≤ (4 + (d0 + 1)); omega, by show 100 ≤ 100 * (4 + (d0 + 1)); omega, Nat.le_refl _, Nat.le_refl _⟩) (Nat.le_of_ble_eq_true rfl) dX2_extend_23 ?_
      refine q_topi (r32_max r_l3 rx20) (fun x26 ex26 rx26 => ?_)
      replace h := h x26 ex26
      refine q_istore (lv' := [(8, .int (i32 x26)), (0, .ref hX2), (1, .ref aP1_row), (2, .int (i32 l2)), (3, .int (i32 l3)), (4, .long (i64 l4)), (6, .long (i64 l6))]) g 8   (by decide) rfl dX2_extend_26 ?_
      refine q_lv (lv' := [(0, .ref hX2), (1, .ref aP1_row), (2, .int (i32 l2)), (4, .long (i64 l4)), (6, .long (i64 l6)), (8, .int (i32 x26))]) [1, 2, 3, 5, 6, 0] rfl ?_
      obtain ⟨n0, h⟩ := h
      exact s_X2_extend_28 rfl g hR hX2 aX2_tried aX2_triedLeave aX2_numbers aX2_weights aX2_weightsAhead aX2_grains aX2_placeFrom aX2_first n_barred n_wanted aP1_row zP1 n_numbers n_weights n_weightsAhead n_grains n_placeFrom n_limit n_size n_parts r_n_numbers r_n_weights r_n_weightsAhead r_n_grains r_n_placeFrom r_n_limit r_n_size r_n_parts hzP1 Q hF (wp_X2_extend d0) ihd n0 p1_row n_found l2 l4 l6 x26 r_p1_row r_n_found r_l2 r_l4 r_l6 rx26 h
    replace h := h.2 b2
    refine q_aload_n g 0 0 rfl dX2_extend_5 ?_
    refine q_aload_n g 1 1 rfl dX2_extend_6 ?_
    refine q_iload_n g 3 3 rfl dX2_extend_7 ?_
    refine q_lload g 4 4 rfl dX2_extend_8 ?_
    refine q_lload g 6 5 rfl dX2_extend_10 ?_
    refine q_callV (lev := 3) (mc := 0) (ms := 0) g 122 (c_X2_endWith X.l X.D X.cI X.cJ X.zt hX2 aX2_tried aX2_triedLeave aX2_numbers aX2_weights aX2_weightsAhead aX2_grains aX2_placeFrom aX2_first n_barred n_limit n_size n_parts n_wanted n_found aP1_row zP1 p1_row n_numbers n_weights n_placeFrom l3 l4 l6 _ r_p1_row r_n_numbers r_n_weights r_n_placeFrom r_n_limit r_n_size r_n_parts r_n_found r_l3 r_l4 r_l6 hzP1 h) (wr := [(aX2_weightsAhead, aL X.cJ 61 n_weightsAhead), (aX2_grains, aL X.cJ 61 n_grains)]) [0, 1, 2, 3, 6] [4, 5] rfl rfl rfl (by decide) (by decide) (by decide) (ci := 2) rfl rfl rfl wM_X2_122 wI_X2_endWith wS_X2_endWith wZ_X2 wC_X2_endWith 4 rfl (by decide +kernel) (by rw [hR]; exact ⟨by show 3 + 1 ≤ (4 + (d0 + 1)); omega, by show 8 + (8 + 11) + 100 * 3 ≤ 100 * (4 + (d0 + 1)); omega⟩) (by rw [hR]; exact ⟨Nat.le_refl _, Nat.le_refl _⟩) (Nat.le_of_ble_eq_true rfl) rfl dX2_extend_12 (fun rv w1 hq => ?_)
    obtain ⟨p1_row_12, n_found_12, rfl, rfl, rp1_row_12, rn_found_12, h⟩ := hq
    refine q_ws (ws' := [(hX2, .inr (2, [.ref aX2_tried, .ref aX2_triedLeave, .ref aX2_numbers, .ref aX2_weights, .ref aX2_weightsAhead, .ref aX2_grains, .ref aX2_placeFrom, .ref aX2_first, .long (i64 n_barred), .int (i32 n_limit), .int (i32 n_size), .long (i64 n_parts), .long (i64 n_wanted), .int (i32 n_found_12)])), (aP1_row, aL X.cJ zP1 p1_row_12), (aX2_numbers, aI X.cI 60 n_numbers), (aX2_weights, aL X.cJ 60 n_weights), (aX2_weightsAhead, aL X.cJ 61 n_weightsAhead), (aX2_grains, aL X.cJ 61 n_grains), (aX2_placeFrom, aI X.cI 61 n_placeFrom)]) [2, 3, 4, 5, 0, 1, 6] (by decide) rfl rfl ?_
    show Wat X 0 0 15 [(0, .ref hX2), (1, .ref aP1_row), (2, .int (i32 l2)), (3, .int (i32 l3)), (4, .long (i64 l4)), (6, .long (i64 l6))] [] [(hX2, .inr (2, [.ref aX2_tried, .ref aX2_triedLeave, .ref aX2_numbers, .ref aX2_weights, .ref aX2_weightsAhead, .ref aX2_grains, .ref aX2_placeFrom, .ref aX2_first, .long (i64 n_barred), .int (i32 n_limit), .int (i32 n_size), .long (i64 n_parts), .long (i64 n_wanted), .int (i32 n_found_12)])), (aP1_row, aL X.cJ zP1 p1_row_12), (aX2_numbers, aI X.cI 60 n_numbers), (aX2_weights, aL X.cJ 60 n_weights), (aX2_weightsAhead, aL X.cJ 61 n_weightsAhead), (aX2_grains, aL X.cJ 61 n_grains), (aX2_placeFrom, aI X.cI 61 n_placeFrom)]
    exact q_vret g hF ⟨p1_row_12, n_found_12, rfl, rfl, rp1_row_12, rn_found_12, h⟩ dX2_extend_15
theorem dX2_collect_0 : decode cX2_collect 0 = .ok (.aload_n 0, 1) := by decide +kernel
theorem dX2_collect_1 : decode cX2_collect 1 = .ok (.iconst 0, 1) := by decide +kernel
theorem dX2_collect_2 : decode cX2_collect 2 = .ok (.putfield 73, 3) := by decide +kernel
theorem dX2_collect_5 : decode cX2_collect 5 = .ok (.aload_n 0, 1) := by decide +kernel
theorem dX2_collect_6 : decode cX2_collect 6 = .ok (.getfield 52, 3) := by decide +kernel
theorem dX2_collect_9 : decode cX2_collect 9 = .ok (.lconst 0, 1) := by decide +kernel
theorem dX2_collect_10 : decode cX2_collect 10 = .ok (.lcmp, 1) := by decide +kernel
theorem dX2_collect_11 : decode cX2_collect 11 = .ok (.ifCond .le 15, 3) := by decide +kernel
theorem dX2_collect_14 : decode cX2_collect 14 = .ok (.aload_n 0, 1) := by decide +kernel
theorem dX2_collect_15 : decode cX2_collect 15 = .ok (.aload_n 2, 1) := by decide +kernel
theorem dX2_collect_16 : decode cX2_collect 16 = .ok (.iload_n 1, 1) := by decide +kernel
theorem dX2_collect_17 : decode cX2_collect 17 = .ok (.iconst 0, 1) := by decide +kernel
theorem dX2_collect_18 : decode cX2_collect 18 = .ok (.aload_n 0, 1) := by decide +kernel
theorem dX2_collect_19 : decode cX2_collect 19 = .ok (.getfield 52, 3) := by decide +kernel
theorem dX2_collect_22 : decode cX2_collect 22 = .ok (.lconst 0, 1) := by decide +kernel
theorem dX2_collect_23 : decode cX2_collect 23 = .ok (.invokestatic 76, 3) := by decide +kernel
theorem dX2_collect_26 : decode cX2_collect 26 = .ok (.aload_n 0, 1) := by decide +kernel
theorem dX2_collect_27 : decode cX2_collect 27 = .ok (.getfield 73, 3) := by decide +kernel
theorem dX2_collect_30 : decode cX2_collect 30 = .ok (.ireturn, 1) := by decide +kernel
abbrev po_X2_collect (cI cJ : ClassId) (hX2 : Nat) (aX2_tried : Nat) (aX2_triedLeave : Nat) (aX2_numbers : Nat) (aX2_weights : Nat) (aX2_weightsAhead : Nat) (aX2_grains : Nat) (aX2_placeFrom : Nat) (aX2_first : Nat) (n_barred : Int) (n_limit : Int) (n_size : Int) (n_parts : Int) (n_wanted : Int) (aP1_row : Nat) (zP1 : Nat) (n_numbers : Int → Int) (n_weights : Int → Int) (n_weightsAhead : Int → Int) (n_grains : Int → Int) (n_placeFrom : Int → Int) (Q : Int → (Int → Int) → Int → Prop) : Option Value → va_W → Prop := fun rv w1 => ∃ (r0 : Int) (p1_row : Int → Int) (n_found : Int), rv = some (.int (i32 r0)) ∧ w1 = [(hX2, .inr (2, [.ref aX2_tried, .ref aX2_triedLeave, .ref aX2_numbers, .ref aX2_weights, .ref aX2_weightsAhead, .ref aX2_grains, .ref aX2_placeFrom, .ref aX2_first, .long (i64 n_barred), .int (i32 n_limit), .int (i32 n_size), .long (i64 n_parts), .long (i64 n_wanted), .int (i32 n_found)])), (aP1_row, aL cJ zP1 p1_row), (aX2_numbers, aI cI 60 n_numbers), (aX2_weights, aL cJ 60 n_weights), (aX2_weightsAhead, aL cJ 61 n_weightsAhead), (aX2_grains, aL cJ 61 n_grains), (aX2_placeFrom, aI cI 61 n_placeFrom)] ∧ r32 r0 ∧ rr64 p1_row ∧ r32 n_found ∧ Q r0 p1_row n_found
def wp_X2_collect_26 (Q : Int → (Int → Int) → Int → Prop) (zP1 : Nat) (n_numbers : Int → Int) (n_weights : Int → Int) (n_weightsAhead : Int → Int) (n_grains : Int → Int) (n_placeFrom : Int → Int) (n_limit : Int) (n_size : Int) (n_parts : Int) (n_wanted : Int) (p1_row : Int → Int) (n_found : Int) : Prop := Q n_found p1_row n_found
set_option maxHeartbeats 4000000 in
set_option maxRecDepth 100000 in
theorem s_X2_collect_26 {X : Cx} (g : Gd X cX2_collect RX2 (some .int) 3) (hR : X.R = rmL 12 0 0) (hX2 : Nat) (aX2_tried : Nat) (aX2_triedLeave : Nat) (aX2_numbers : Nat) (aX2_weights : Nat) (aX2_weightsAhead : Nat) (aX2_grains : Nat) (aX2_placeFrom : Nat) (aX2_first : Nat) (n_barred : Int) (aP1_row : Nat) (zP1 : Nat) (n_numbers : Int → Int) (n_weights : Int → Int) (n_weightsAhead : Int → Int) (n_grains : Int → Int) (n_placeFrom : Int → Int) (n_limit : Int) (n_size : Int) (n_parts : Int) (n_wanted : Int) (r_n_numbers : rr32 n_numbers) (r_n_weights : rr64 n_weights) (r_n_weightsAhead : rr64 n_weightsAhead) (r_n_grains : rr64 n_grains) (r_n_placeFrom : rr32 n_placeFrom) (r_n_limit : r32 n_limit) (r_n_size : r32 n_size) (r_n_parts : r64 n_parts) (r_n_wanted : r64 n_wanted) (hzP1 : zP1 < 2147483648) (Q : Int → (Int → Int) → Int → Prop) (hF : FQ X 0 0 (po_X2_collect X.cI X.cJ hX2 aX2_tried aX2_triedLeave aX2_numbers aX2_weights aX2_weightsAhead aX2_grains aX2_placeFrom aX2_first n_barred n_limit n_size n_parts n_wanted aP1_row zP1 n_numbers n_weights n_weightsAhead n_grains n_placeFrom Q)) : ∀ (p1_row : Int → Int) (n_found : Int), rr64 p1_row → r32 n_found → wp_X2_collect_26 Q zP1 n_numbers n_weights n_weightsAhead n_grains n_placeFrom n_limit n_size n_parts n_wanted p1_row n_found → Wat X 0 0 26 [(0, .ref hX2)] [] [(hX2, .inr (2, [.ref aX2_tried, .ref aX2_triedLeave, .ref aX2_numbers, .ref aX2_weights, .ref aX2_weightsAhead, .ref aX2_grains, .ref aX2_placeFrom, .ref aX2_first, .long (i64 n_barred), .int (i32 n_limit), .int (i32 n_size), .long (i64 n_parts), .long (i64 n_wanted), .int (i32 n_found)])), (aP1_row, aL X.cJ zP1 p1_row), (aX2_numbers, aI X.cI 60 n_numbers), (aX2_weights, aL X.cJ 60 n_weights), (aX2_weightsAhead, aL X.cJ 61 n_weightsAhead), (aX2_grains, aL X.cJ 61 n_grains), (aX2_placeFrom, aI X.cI 61 n_placeFrom)] := by
  intro p1_row n_found r_p1_row r_n_found h
  rw [wp_X2_collect_26] at h
  refine q_aload_n g 0 0 rfl dX2_collect_26 ?_
  refine q_get (C := RX2) (T := TX2) (N := 14) g 73 inX2 0 13 rfl rfl (by decide) wF_X2_73 rfl dX2_collect_27 ?_
  exact q_iret g hF ⟨n_found, p1_row, n_found, rfl, rfl, r_n_found, r_p1_row, r_n_found, h⟩ dX2_collect_30
def wp_X2_collect (Q : Int → (Int → Int) → Int → Prop) (zP1 : Nat) (p1_row : Int → Int) (n_numbers : Int → Int) (n_weights : Int → Int) (n_weightsAhead : Int → Int) (n_grains : Int → Int) (n_placeFrom : Int → Int) (n_limit : Int) (n_size : Int) (n_parts : Int) (n_wanted : Int) (n_found : Int) (l1 : Int) : Prop := ((n_wanted ≤ 0 → wp_X2_collect_26 Q zP1 n_numbers n_weights n_weightsAhead n_grains n_placeFrom n_limit n_size n_parts n_wanted p1_row 0) ∧
  (¬ (n_wanted ≤ 0) → (∃ dd : Nat, dd ≤ 7 ∧ wp_X2_extend dd (fun (p1_row_23 : Int → Int) (n_found_23 : Int) => wp_X2_collect_26 Q zP1 n_numbers n_weights n_weightsAhead n_grains n_placeFrom n_limit n_size n_parts n_wanted p1_row_23 n_found_23) zP1 p1_row n_numbers n_weights n_weightsAhead n_grains n_placeFrom n_limit n_size n_parts 0 l1 0 n_wanted 0)))
set_option maxHeartbeats 4000000 in
set_option maxRecDepth 100000 in
theorem c_X2_collect (l : Launch) (D : va_G) (cI cJ : ClassId) (zt : Nat) (hX2 : Nat) (aX2_tried : Nat) (aX2_triedLeave : Nat) (aX2_numbers : Nat) (aX2_weights : Nat) (aX2_weightsAhead : Nat) (aX2_grains : Nat) (aX2_placeFrom : Nat) (aX2_first : Nat) (n_barred : Int) (n_limit : Int) (n_size : Int) (n_parts : Int) (n_wanted : Int) (n_found : Int) (aP1_row : Nat) (zP1 : Nat) (p1_row : Int → Int) (n_numbers : Int → Int) (n_weights : Int → Int) (n_weightsAhead : Int → Int) (n_grains : Int → Int) (n_placeFrom : Int → Int) (l1 : Int) (Q : Int → (Int → Int) → Int → Prop) (r_p1_row : rr64 p1_row) (r_n_numbers : rr32 n_numbers) (r_n_weights : rr64 n_weights) (r_n_weightsAhead : rr64 n_weightsAhead) (r_n_grains : rr64 n_grains) (r_n_placeFrom : rr32 n_placeFrom) (r_n_limit : r32 n_limit) (r_n_size : r32 n_size) (r_n_parts : r64 n_parts) (r_n_wanted : r64 n_wanted) (r_n_found : r32 n_found) (r_l1 : r32 l1) (hzP1 : zP1 < 2147483648) (h : wp_X2_collect Q zP1 p1_row n_numbers n_weights n_weightsAhead n_grains n_placeFrom n_limit n_size n_parts n_wanted n_found l1) : Ct l D cI cJ zt yX2_collect cX2_collect 3 (some .int) 12 0 0 [.ref hX2, .int (i32 l1), .ref aP1_row] [(hX2, .inr (2, [.ref aX2_tried, .ref aX2_triedLeave, .ref aX2_numbers, .ref aX2_weights, .ref aX2_weightsAhead, .ref aX2_grains, .ref aX2_placeFrom, .ref aX2_first, .long (i64 n_barred), .int (i32 n_limit), .int (i32 n_size), .long (i64 n_parts), .long (i64 n_wanted), .int (i32 n_found)])), (aP1_row, aL cJ zP1 p1_row), (aX2_numbers, aI cI 60 n_numbers), (aX2_weights, aL cJ 60 n_weights), (aX2_weightsAhead, aL cJ 61 n_weightsAhead), (aX2_grains, aL cJ 61 n_grains), (aX2_placeFrom, aI cI 61 n_placeFrom)] (po_X2_collect cI cJ hX2 aX2_tried aX2_triedLeave aX2_numbers aX2_weights aX2_weightsAhead aX2_grains aX2_placeFrom aX2_first n_barred n_limit n_size n_parts n_wanted aP1_row zP1 n_numbers n_weights n_weightsAhead n_grains n_placeFrom Q) := by
  refine ct_of (by decide +kernel) (Nat.le_of_ble_eq_true rfl) (fun X hl hDD hcI hcJ hzt hR hF hnm g => ?_)
  subst hl; subst hDD; subst hcI; subst hcJ; subst hzt
  show Wat X 0 0 0 [(0, .ref hX2), (1, .int (i32 l1)), (2, .ref aP1_row)] [] [(hX2, .inr (2, [.ref aX2_tried, .ref aX2_triedLeave, .ref aX2_numbers, .ref aX2_weights, .ref aX2_weightsAhead, .ref aX2_grains, .ref aX2_placeFrom, .ref aX2_first, .long (i64 n_barred), .int (i32 n_limit), .int (i32 n_size), .long (i64 n_parts), .long (i64 n_wanted), .int (i32 n_found)])), (aP1_row, aL X.cJ zP1 p1_row), (aX2_numbers, aI X.cI 60 n_numbers), (aX2_weights, aL X.cJ 60 n_weights), (aX2_weightsAhead, aL X.cJ 61 n_weightsAhead), (aX2_grains, aL X.cJ 61 n_grains), (aX2_placeFrom, aI X.cI 61 n_placeFrom)]
  replace g : Gd X cX2_collect RX2 (some .int) 3 := g
  rw [wp_X2_collect] at h
  refine q_aload_n g 0 0 rfl dX2_collect_0 ?_
  refine q_iconst g (0) dX2_collect_1 ?_
  refine q_put (C := RX2) (T := TX2) (N := 14) (ty := .int) (ws' := [(hX2, .inr (2, [.ref aX2_tried, .ref aX2_triedLeave, .ref aX2_numbers, .ref aX2_weights, .ref aX2_weightsAhead, .ref aX2_grains, .ref aX2_placeFrom, .ref aX2_first, .long (i64 n_barred), .int (i32 n_limit), .int (i32 n_size), .long (i64 n_parts), .long (i64 n_wanted), .int (i32 0)])), (aP1_row, aL X.cJ zP1 p1_row), (aX2_numbers, aI X.cI 60 n_numbers), (aX2_weights, aL X.cJ 60 n_weights), (aX2_weightsAhead, aL X.cJ 61 n_weightsAhead), (aX2_grains, aL X.cJ 61 n_grains), (aX2_placeFrom, aI X.cI 61 n_placeFrom)]) g 73 inX2 tyX2_ok nmX2 0 13 rfl rfl (by decide) wF_X2_73 rfl rfl rfl rfl (Nat.le_of_ble_eq_true rfl) rfl dX2_collect_2 ?_
  refine q_aload_n g 0 0 rfl dX2_collect_5 ?_
  refine q_get (C := RX2) (T := TX2) (N := 14) g 52 inX2 0 12 rfl rfl (by decide) wF_X2_52 rfl dX2_collect_6 ?_
  refine q_lconst g 0 0 rfl dX2_collect_9 ?_
  refine q_lcmp_le g (15) 26 r_n_wanted (r64_lit _ (by decide)) (by decide) dX2_collect_10 dX2_collect_11 (fun b10 => ?_) (fun b10 => ?_)
  · replace h := h.1 b10
    refine q_lv (lv' := [(0, .ref hX2)]) [0] rfl ?_
    exact s_X2_collect_26 g hR hX2 aX2_tried aX2_triedLeave aX2_numbers aX2_weights aX2_weightsAhead aX2_grains aX2_placeFrom aX2_first n_barred aP1_row zP1 n_numbers n_weights n_weightsAhead n_grains n_placeFrom n_limit n_size n_parts n_wanted r_n_numbers r_n_weights r_n_weightsAhead r_n_grains r_n_placeFrom r_n_limit r_n_size r_n_parts r_n_wanted hzP1 Q hF p1_row 0 r_p1_row (r32_lit _ (by decide)) h
  replace h := h.2 b10
  refine q_aload_n g 0 0 rfl dX2_collect_14 ?_
  refine q_aload_n g 2 2 rfl dX2_collect_15 ?_
  refine q_iload_n g 1 1 rfl dX2_collect_16 ?_
  refine q_iconst g (0) dX2_collect_17 ?_
  refine q_aload_n g 0 0 rfl dX2_collect_18 ?_
  refine q_get (C := RX2) (T := TX2) (N := 14) g 52 inX2 0 12 rfl rfl (by decide) wF_X2_52 rfl dX2_collect_19 ?_
  refine q_lconst g 0 0 rfl dX2_collect_22 ?_
  obtain ⟨dd, hdd, h⟩ := h
  refine q_callS (lev := (4 + dd)) (mc := 0) (ms := 0) (As := [.ref hX2, .ref aP1_row, .int (i32 l1), .int (i32 0), .long (i64 n_wanted), .long (i64 0)]) g 76 (c_X2_extend X.l X.D X.cI X.cJ X.zt dd hX2 aX2_tried aX2_triedLeave aX2_numbers aX2_weights aX2_weightsAhead aX2_grains aX2_placeFrom aX2_first n_barred n_limit n_size n_parts n_wanted 0 aP1_row zP1 p1_row n_numbers n_weights n_weightsAhead n_grains n_placeFrom l1 0 n_wanted 0 _ r_p1_row r_n_numbers r_n_weights r_n_weightsAhead r_n_grains r_n_placeFrom r_n_limit r_n_size r_n_parts (r32_lit _ (by decide)) r_l1 (r32_lit _ (by decide)) r_n_wanted (r64_lit _ (by decide)) hzP1 h) (wr := []) [0, 1, 2, 3, 4, 5, 6] [] rfl rfl rfl (by decide) (by decide) (by decide) wM_X2_76 wT_X2_extend wZ_X2 wC_X2_extend 6 rfl (by decide +kernel) (by rw [hR]; exact ⟨by show (4 + dd) + 1 ≤ 12; omega, by show 8 + (13 + 11) + 100 * (4 + dd) ≤ 100 * 12; omega⟩) (by rw [hR]; exact ⟨Nat.le_refl _, Nat.le_refl _⟩) (Nat.le_of_ble_eq_true rfl) rfl dX2_collect_23 (fun rv w1 hq => ?_)
  obtain ⟨p1_row_23, n_found_23, rfl, rfl, rp1_row_23, rn_found_23, h⟩ := hq
  show Wat X 0 0 26 [(0, .ref hX2), (1, .int (i32 l1)), (2, .ref aP1_row)] [] [(hX2, .inr (2, [.ref aX2_tried, .ref aX2_triedLeave, .ref aX2_numbers, .ref aX2_weights, .ref aX2_weightsAhead, .ref aX2_grains, .ref aX2_placeFrom, .ref aX2_first, .long (i64 n_barred), .int (i32 n_limit), .int (i32 n_size), .long (i64 n_parts), .long (i64 n_wanted), .int (i32 n_found_23)])), (aP1_row, aL X.cJ zP1 p1_row_23), (aX2_numbers, aI X.cI 60 n_numbers), (aX2_weights, aL X.cJ 60 n_weights), (aX2_weightsAhead, aL X.cJ 61 n_weightsAhead), (aX2_grains, aL X.cJ 61 n_grains), (aX2_placeFrom, aI X.cI 61 n_placeFrom)]
  refine q_lv (lv' := [(0, .ref hX2)]) [0] rfl ?_
  exact s_X2_collect_26 g hR hX2 aX2_tried aX2_triedLeave aX2_numbers aX2_weights aX2_weightsAhead aX2_grains aX2_placeFrom aX2_first n_barred aP1_row zP1 n_numbers n_weights n_weightsAhead n_grains n_placeFrom n_limit n_size n_parts n_wanted r_n_numbers r_n_weights r_n_weightsAhead r_n_grains r_n_placeFrom r_n_limit r_n_size r_n_parts r_n_wanted hzP1 Q hF p1_row_23 n_found_23 rp1_row_23 rn_found_23 h
theorem dX2_fewestShares_0 : decode cX2_fewestShares 0 = .ok (.iconst 1, 1) := by decide +kernel
theorem dX2_fewestShares_1 : decode cX2_fewestShares 1 = .ok (.istore_n 2, 1) := by decide +kernel
theorem dX2_fewestShares_2 : decode cX2_fewestShares 2 = .ok (.iload_n 2, 1) := by decide +kernel
theorem dX2_fewestShares_3 : decode cX2_fewestShares 3 = .ok (.iload_n 1, 1) := by decide +kernel
theorem dX2_fewestShares_4 : decode cX2_fewestShares 4 = .ok (.if_icmp .gt 23, 3) := by decide +kernel
theorem dX2_fewestShares_7 : decode cX2_fewestShares 7 = .ok (.aload_n 0, 1) := by decide +kernel
theorem dX2_fewestShares_8 : decode cX2_fewestShares 8 = .ok (.iload_n 2, 1) := by decide +kernel
theorem dX2_fewestShares_9 : decode cX2_fewestShares 9 = .ok (.aload_n 0, 1) := by decide +kernel
theorem dX2_fewestShares_10 : decode cX2_fewestShares 10 = .ok (.getfield 36, 3) := by decide +kernel
theorem dX2_fewestShares_13 : decode cX2_fewestShares 13 = .ok (.invokevirtual 80, 3) := by decide +kernel
theorem dX2_fewestShares_16 : decode cX2_fewestShares 16 = .ok (.ifCond .le 5, 3) := by decide +kernel
theorem dX2_fewestShares_19 : decode cX2_fewestShares 19 = .ok (.iload_n 2, 1) := by decide +kernel
theorem dX2_fewestShares_20 : decode cX2_fewestShares 20 = .ok (.ireturn, 1) := by decide +kernel
theorem dX2_fewestShares_21 : decode cX2_fewestShares 21 = .ok (.iinc 2 1, 3) := by decide +kernel
theorem dX2_fewestShares_24 : decode cX2_fewestShares 24 = .ok (.goto (-22), 3) := by decide +kernel
theorem dX2_fewestShares_27 : decode cX2_fewestShares 27 = .ok (.bipush (-4), 2) := by decide +kernel
theorem dX2_fewestShares_29 : decode cX2_fewestShares 29 = .ok (.ireturn, 1) := by decide +kernel
abbrev po_X2_fewestShares (cI cJ : ClassId) (hX2 : Nat) (aX2_tried : Nat) (aX2_triedLeave : Nat) (aX2_numbers : Nat) (aX2_weights : Nat) (aX2_weightsAhead : Nat) (aX2_grains : Nat) (aX2_placeFrom : Nat) (aX2_first : Nat) (n_barred : Int) (n_limit : Int) (n_size : Int) (n_parts : Int) (n_wanted : Int) (n_numbers : Int → Int) (n_weights : Int → Int) (n_weightsAhead : Int → Int) (n_grains : Int → Int) (n_placeFrom : Int → Int) (Q : Int → (Int → Int) → Int → Prop) : Option Value → va_W → Prop := fun rv w1 => ∃ (r0 : Int) (n_first : Int → Int) (n_found : Int), rv = some (.int (i32 r0)) ∧ w1 = [(hX2, .inr (2, [.ref aX2_tried, .ref aX2_triedLeave, .ref aX2_numbers, .ref aX2_weights, .ref aX2_weightsAhead, .ref aX2_grains, .ref aX2_placeFrom, .ref aX2_first, .long (i64 n_barred), .int (i32 n_limit), .int (i32 n_size), .long (i64 n_parts), .long (i64 n_wanted), .int (i32 n_found)])), (aX2_numbers, aI cI 60 n_numbers), (aX2_weights, aL cJ 60 n_weights), (aX2_weightsAhead, aL cJ 61 n_weightsAhead), (aX2_grains, aL cJ 61 n_grains), (aX2_placeFrom, aI cI 61 n_placeFrom), (aX2_first, aL cJ 1 n_first)] ∧ r32 r0 ∧ rr64 n_first ∧ r32 n_found ∧ Q r0 n_first n_found
def wp_X2_fewestShares_2 (Q : Int → (Int → Int) → Int → Prop) (n_numbers : Int → Int) (n_weights : Int → Int) (n_weightsAhead : Int → Int) (n_grains : Int → Int) (n_placeFrom : Int → Int) (n_limit : Int) (n_size : Int) (n_parts : Int) (n_wanted : Int) : Nat → (Int → Int) → Int → Int → Int → Prop
  | 0, _, _, _, _ => False
  | n + 1, n_first, n_found, l1, l2 => ((l1 < l2 → Q (-4) n_first n_found) ∧
  (¬ (l1 < l2) → wp_X2_collect (fun (x13 : Int) (n_first_13 : Int → Int) (n_found_13 : Int) => ((x13 ≤ 0 → (r32 (l2 + 1) ∧ wp_X2_fewestShares_2 Q n_numbers n_weights n_weightsAhead n_grains n_placeFrom n_limit n_size n_parts n_wanted n n_first_13 n_found_13 l1 (l2 + 1))) ∧
  (¬ (x13 ≤ 0) → Q l2 n_first_13 n_found_13))) 1 n_first n_numbers n_weights n_weightsAhead n_grains n_placeFrom n_limit n_size n_parts n_wanted n_found l2))
set_option maxHeartbeats 4000000 in
set_option maxRecDepth 100000 in
theorem s_X2_fewestShares_2 {X : Cx} (g : Gd X cX2_fewestShares RX2 (some .int) 3) (hR : X.R = rmL 13 0 0) (hX2 : Nat) (aX2_tried : Nat) (aX2_triedLeave : Nat) (aX2_numbers : Nat) (aX2_weights : Nat) (aX2_weightsAhead : Nat) (aX2_grains : Nat) (aX2_placeFrom : Nat) (aX2_first : Nat) (n_barred : Int) (n_numbers : Int → Int) (n_weights : Int → Int) (n_weightsAhead : Int → Int) (n_grains : Int → Int) (n_placeFrom : Int → Int) (n_limit : Int) (n_size : Int) (n_parts : Int) (n_wanted : Int) (r_n_numbers : rr32 n_numbers) (r_n_weights : rr64 n_weights) (r_n_weightsAhead : rr64 n_weightsAhead) (r_n_grains : rr64 n_grains) (r_n_placeFrom : rr32 n_placeFrom) (r_n_limit : r32 n_limit) (r_n_size : r32 n_size) (r_n_parts : r64 n_parts) (r_n_wanted : r64 n_wanted) (Q : Int → (Int → Int) → Int → Prop) (hF : FQ X 0 0 (po_X2_fewestShares X.cI X.cJ hX2 aX2_tried aX2_triedLeave aX2_numbers aX2_weights aX2_weightsAhead aX2_grains aX2_placeFrom aX2_first n_barred n_limit n_size n_parts n_wanted n_numbers n_weights n_weightsAhead n_grains n_placeFrom Q)) : ∀ (n : Nat) (n_first : Int → Int) (n_found : Int) (l1 : Int) (l2 : Int), rr64 n_first → r32 n_found → r32 l1 → r32 l2 → wp_X2_fewestShares_2 Q n_numbers n_weights n_weightsAhead n_grains n_placeFrom n_limit n_size n_parts n_wanted n n_first n_found l1 l2 → Wat X 0 0 2 [(0, .ref hX2), (1, .int (i32 l1)), (2, .int (i32 l2))] [] [(hX2, .inr (2, [.ref aX2_tried, .ref aX2_triedLeave, .ref aX2_numbers, .ref aX2_weights, .ref aX2_weightsAhead, .ref aX2_grains, .ref aX2_placeFrom, .ref aX2_first, .long (i64 n_barred), .int (i32 n_limit), .int (i32 n_size), .long (i64 n_parts), .long (i64 n_wanted), .int (i32 n_found)])), (aX2_numbers, aI X.cI 60 n_numbers), (aX2_weights, aL X.cJ 60 n_weights), (aX2_weightsAhead, aL X.cJ 61 n_weightsAhead), (aX2_grains, aL X.cJ 61 n_grains), (aX2_placeFrom, aI X.cI 61 n_placeFrom), (aX2_first, aL X.cJ 1 n_first)] := by
  intro n
  induction n with
  | zero => intro n_first n_found l1 l2 r_n_first r_n_found r_l1 r_l2 h; exact False.elim h
  | succ n ih =>
    intro n_first n_found l1 l2 r_n_first r_n_found r_l1 r_l2 h
    rw [wp_X2_fewestShares_2] at h
    refine q_iload_n g 2 2 rfl dX2_fewestShares_2 ?_
    refine q_iload_n g 1 1 rfl dX2_fewestShares_3 ?_
    refine q_icmp_gt g (23) 27 r_l2 r_l1 (by decide) dX2_fewestShares_4 (fun b4 => ?_) (fun b4 => ?_)
    · replace h := h.1 b4
      refine q_bipush g (-4) (by decide) (by decide) dX2_fewestShares_27 ?_
      exact q_iret g hF ⟨(-4), n_first, n_found, rfl, rfl, (r32_lit _ (by decide)), r_n_first, r_n_found, h⟩ dX2_fewestShares_29
    replace h := h.2 b4
    refine q_aload_n g 0 0 rfl dX2_fewestShares_7 ?_
    refine q_iload_n g 2 2 rfl dX2_fewestShares_8 ?_
    refine q_aload_n g 0 0 rfl dX2_fewestShares_9 ?_
    refine q_get (C := RX2) (T := TX2) (N := 14) g 36 inX2 0 7 rfl rfl (by decide) wF_X2_36 rfl dX2_fewestShares_10 ?_
    refine q_callV (lev := 12) (mc := 0) (ms := 0) g 80 (c_X2_collect X.l X.D X.cI X.cJ X.zt hX2 aX2_tried aX2_triedLeave aX2_numbers aX2_weights aX2_weightsAhead aX2_grains aX2_placeFrom aX2_first n_barred n_limit n_size n_parts n_wanted n_found aX2_first 1 n_first n_numbers n_weights n_weightsAhead n_grains n_placeFrom l2 _ r_n_first r_n_numbers r_n_weights r_n_weightsAhead r_n_grains r_n_placeFrom r_n_limit r_n_size r_n_parts r_n_wanted r_n_found r_l2 (by decide) h) (wr := []) [0, 6, 1, 2, 3, 4, 5] [] rfl rfl rfl (by decide) (by decide) (by decide) (ci := 2) rfl rfl rfl wM_X2_80 wI_X2_collect wS_X2_collect wZ_X2 wC_X2_collect 2 rfl (by decide +kernel) (by rw [hR]; exact ⟨by show 12 + 1 ≤ 13; omega, by show 8 + (3 + 11) + 100 * 12 ≤ 100 * 13; omega⟩) (by rw [hR]; exact ⟨Nat.le_refl _, Nat.le_refl _⟩) (Nat.le_of_ble_eq_true rfl) rfl dX2_fewestShares_13 (fun rv w1 hq => ?_)
    obtain ⟨x13, n_first_13, n_found_13, rfl, rfl, rx13, rn_first_13, rn_found_13, h⟩ := hq
    refine q_ws (ws' := [(hX2, .inr (2, [.ref aX2_tried, .ref aX2_triedLeave, .ref aX2_numbers, .ref aX2_weights, .ref aX2_weightsAhead, .ref aX2_grains, .ref aX2_placeFrom, .ref aX2_first, .long (i64 n_barred), .int (i32 n_limit), .int (i32 n_size), .long (i64 n_parts), .long (i64 n_wanted), .int (i32 n_found_13)])), (aX2_numbers, aI X.cI 60 n_numbers), (aX2_weights, aL X.cJ 60 n_weights), (aX2_weightsAhead, aL X.cJ 61 n_weightsAhead), (aX2_grains, aL X.cJ 61 n_grains), (aX2_placeFrom, aI X.cI 61 n_placeFrom), (aX2_first, aL X.cJ 1 n_first_13)]) [0, 2, 3, 4, 5, 6, 1] (by decide) rfl rfl ?_
    show Wat X 0 0 16 [(0, .ref hX2), (1, .int (i32 l1)), (2, .int (i32 l2))] [.int (i32 x13)] [(hX2, .inr (2, [.ref aX2_tried, .ref aX2_triedLeave, .ref aX2_numbers, .ref aX2_weights, .ref aX2_weightsAhead, .ref aX2_grains, .ref aX2_placeFrom, .ref aX2_first, .long (i64 n_barred), .int (i32 n_limit), .int (i32 n_size), .long (i64 n_parts), .long (i64 n_wanted), .int (i32 n_found_13)])), (aX2_numbers, aI X.cI 60 n_numbers), (aX2_weights, aL X.cJ 60 n_weights), (aX2_weightsAhead, aL X.cJ 61 n_weightsAhead), (aX2_grains, aL X.cJ 61 n_grains), (aX2_placeFrom, aI X.cI 61 n_placeFrom), (aX2_first, aL X.cJ 1 n_first_13)]
    refine q_if_le g (5) 21 rx13 (by decide) dX2_fewestShares_16 (fun b16 => ?_) (fun b16 => ?_)
    · replace h := h.1 b16
      obtain ⟨c21, h⟩ := h
      refine q_iinc (lv' := [(2, .int (i32 (l2 + 1))), (0, .ref hX2), (1, .int (i32 l1))]) g 2 2 1 (by decide) rfl rfl dX2_fewestShares_21 ?_
      refine q_goto g (-22) 2 (by decide) dX2_fewestShares_24 ?_
      refine q_lv (lv' := [(0, .ref hX2), (1, .int (i32 l1)), (2, .int (i32 (l2 + 1)))]) [1, 2, 0] rfl ?_
      exact ih n_first_13 n_found_13 l1 (l2 + 1) rn_first_13 rn_found_13 r_l1 c21 h
    replace h := h.2 b16
    refine q_iload_n g 2 2 rfl dX2_fewestShares_19 ?_
    exact q_iret g hF ⟨l2, n_first_13, n_found_13, rfl, rfl, r_l2, rn_first_13, rn_found_13, h⟩ dX2_fewestShares_20
def wp_X2_fewestShares (Q : Int → (Int → Int) → Int → Prop) (n_numbers : Int → Int) (n_weights : Int → Int) (n_weightsAhead : Int → Int) (n_grains : Int → Int) (n_placeFrom : Int → Int) (n_first : Int → Int) (n_limit : Int) (n_size : Int) (n_parts : Int) (n_wanted : Int) (n_found : Int) (l1 : Int) : Prop := (∃ n0 : Nat, wp_X2_fewestShares_2 Q n_numbers n_weights n_weightsAhead n_grains n_placeFrom n_limit n_size n_parts n_wanted n0 n_first n_found l1 1)
set_option maxHeartbeats 4000000 in
set_option maxRecDepth 100000 in
theorem c_X2_fewestShares (l : Launch) (D : va_G) (cI cJ : ClassId) (zt : Nat) (hX2 : Nat) (aX2_tried : Nat) (aX2_triedLeave : Nat) (aX2_numbers : Nat) (aX2_weights : Nat) (aX2_weightsAhead : Nat) (aX2_grains : Nat) (aX2_placeFrom : Nat) (aX2_first : Nat) (n_barred : Int) (n_limit : Int) (n_size : Int) (n_parts : Int) (n_wanted : Int) (n_found : Int) (n_numbers : Int → Int) (n_weights : Int → Int) (n_weightsAhead : Int → Int) (n_grains : Int → Int) (n_placeFrom : Int → Int) (n_first : Int → Int) (l1 : Int) (Q : Int → (Int → Int) → Int → Prop) (r_n_numbers : rr32 n_numbers) (r_n_weights : rr64 n_weights) (r_n_weightsAhead : rr64 n_weightsAhead) (r_n_grains : rr64 n_grains) (r_n_placeFrom : rr32 n_placeFrom) (r_n_first : rr64 n_first) (r_n_limit : r32 n_limit) (r_n_size : r32 n_size) (r_n_parts : r64 n_parts) (r_n_wanted : r64 n_wanted) (r_n_found : r32 n_found) (r_l1 : r32 l1) (h : wp_X2_fewestShares Q n_numbers n_weights n_weightsAhead n_grains n_placeFrom n_first n_limit n_size n_parts n_wanted n_found l1) : Ct l D cI cJ zt yX2_fewestShares cX2_fewestShares 3 (some .int) 13 0 0 [.ref hX2, .int (i32 l1)] [(hX2, .inr (2, [.ref aX2_tried, .ref aX2_triedLeave, .ref aX2_numbers, .ref aX2_weights, .ref aX2_weightsAhead, .ref aX2_grains, .ref aX2_placeFrom, .ref aX2_first, .long (i64 n_barred), .int (i32 n_limit), .int (i32 n_size), .long (i64 n_parts), .long (i64 n_wanted), .int (i32 n_found)])), (aX2_numbers, aI cI 60 n_numbers), (aX2_weights, aL cJ 60 n_weights), (aX2_weightsAhead, aL cJ 61 n_weightsAhead), (aX2_grains, aL cJ 61 n_grains), (aX2_placeFrom, aI cI 61 n_placeFrom), (aX2_first, aL cJ 1 n_first)] (po_X2_fewestShares cI cJ hX2 aX2_tried aX2_triedLeave aX2_numbers aX2_weights aX2_weightsAhead aX2_grains aX2_placeFrom aX2_first n_barred n_limit n_size n_parts n_wanted n_numbers n_weights n_weightsAhead n_grains n_placeFrom Q) := by
  refine ct_of (by decide +kernel) (Nat.le_of_ble_eq_true rfl) (fun X hl hDD hcI hcJ hzt hR hF hnm g => ?_)
  subst hl; subst hDD; subst hcI; subst hcJ; subst hzt
  show Wat X 0 0 0 [(0, .ref hX2), (1, .int (i32 l1))] [] [(hX2, .inr (2, [.ref aX2_tried, .ref aX2_triedLeave, .ref aX2_numbers, .ref aX2_weights, .ref aX2_weightsAhead, .ref aX2_grains, .ref aX2_placeFrom, .ref aX2_first, .long (i64 n_barred), .int (i32 n_limit), .int (i32 n_size), .long (i64 n_parts), .long (i64 n_wanted), .int (i32 n_found)])), (aX2_numbers, aI X.cI 60 n_numbers), (aX2_weights, aL X.cJ 60 n_weights), (aX2_weightsAhead, aL X.cJ 61 n_weightsAhead), (aX2_grains, aL X.cJ 61 n_grains), (aX2_placeFrom, aI X.cI 61 n_placeFrom), (aX2_first, aL X.cJ 1 n_first)]
  replace g : Gd X cX2_fewestShares RX2 (some .int) 3 := g
  rw [wp_X2_fewestShares] at h
  refine q_iconst g (1) dX2_fewestShares_0 ?_
  refine q_istore_n (lv' := [(2, .int (i32 1)), (0, .ref hX2), (1, .int (i32 l1))]) g 2 2 rfl (by decide) rfl dX2_fewestShares_1 ?_
  refine q_lv (lv' := [(0, .ref hX2), (1, .int (i32 l1)), (2, .int (i32 1))]) [1, 2, 0] rfl ?_
  obtain ⟨n0, h⟩ := h
  exact s_X2_fewestShares_2 g hR hX2 aX2_tried aX2_triedLeave aX2_numbers aX2_weights aX2_weightsAhead aX2_grains aX2_placeFrom aX2_first n_barred n_numbers n_weights n_weightsAhead n_grains n_placeFrom n_limit n_size n_parts n_wanted r_n_numbers r_n_weights r_n_weightsAhead r_n_grains r_n_placeFrom r_n_limit r_n_size r_n_parts r_n_wanted Q hF n0 n_first n_found l1 1 r_n_first r_n_found r_l1 (r32_lit _ (by decide)) h
theorem dX2_isBarred_0 : decode cX2_isBarred 0 = .ok (.aload_n 0, 1) := by decide +kernel
theorem dX2_isBarred_1 : decode cX2_isBarred 1 = .ok (.getfield 56, 3) := by decide +kernel
theorem dX2_isBarred_4 : decode cX2_isBarred 4 = .ok (.iload_n 1, 1) := by decide +kernel
theorem dX2_isBarred_5 : decode cX2_isBarred 5 = .ok (.invokestatic 113, 3) := by decide +kernel
theorem dX2_isBarred_8 : decode cX2_isBarred 8 = .ok (.land, 1) := by decide +kernel
theorem dX2_isBarred_9 : decode cX2_isBarred 9 = .ok (.lconst 0, 1) := by decide +kernel
theorem dX2_isBarred_10 : decode cX2_isBarred 10 = .ok (.lcmp, 1) := by decide +kernel
theorem dX2_isBarred_11 : decode cX2_isBarred 11 = .ok (.ifCond .eq 7, 3) := by decide +kernel
theorem dX2_isBarred_14 : decode cX2_isBarred 14 = .ok (.iconst 1, 1) := by decide +kernel
theorem dX2_isBarred_15 : decode cX2_isBarred 15 = .ok (.goto 4, 3) := by decide +kernel
theorem dX2_isBarred_18 : decode cX2_isBarred 18 = .ok (.iconst 0, 1) := by decide +kernel
theorem dX2_isBarred_19 : decode cX2_isBarred 19 = .ok (.ireturn, 1) := by decide +kernel
abbrev po_X2_isBarred (cI cJ : ClassId) (hX2 : Nat) (aX2_tried : Nat) (aX2_triedLeave : Nat) (aX2_numbers : Nat) (aX2_weights : Nat) (aX2_weightsAhead : Nat) (aX2_grains : Nat) (aX2_placeFrom : Nat) (aX2_first : Nat) (n_barred : Int) (n_limit : Int) (n_size : Int) (n_parts : Int) (n_wanted : Int) (n_found : Int) (Q : Int → Prop) : Option Value → va_W → Prop := fun rv w1 => ∃ (r0 : Int), rv = some (.int (i32 r0)) ∧ w1 = [(hX2, .inr (2, [.ref aX2_tried, .ref aX2_triedLeave, .ref aX2_numbers, .ref aX2_weights, .ref aX2_weightsAhead, .ref aX2_grains, .ref aX2_placeFrom, .ref aX2_first, .long (i64 n_barred), .int (i32 n_limit), .int (i32 n_size), .long (i64 n_parts), .long (i64 n_wanted), .int (i32 n_found)]))] ∧ r32 r0 ∧ Q r0
def wp_X2_isBarred_19 (Q : Int → Prop) (n_barred : Int) (k0 : Int) : Prop := ((k0 = 0 ∨ k0 = 1) ∧ Q k0)
set_option maxHeartbeats 4000000 in
set_option maxRecDepth 100000 in
theorem s_X2_isBarred_19 {X : Cx} (g : Gd X cX2_isBarred RX2 (some .boolean) 2) (hR : X.R = rmL 2 0 0) (hX2 : Nat) (aX2_tried : Nat) (aX2_triedLeave : Nat) (aX2_numbers : Nat) (aX2_weights : Nat) (aX2_weightsAhead : Nat) (aX2_grains : Nat) (aX2_placeFrom : Nat) (aX2_first : Nat) (n_limit : Int) (n_size : Int) (n_parts : Int) (n_wanted : Int) (n_found : Int) (n_barred : Int) (r_n_barred : r64 n_barred) (Q : Int → Prop) (hF : FQ X 0 0 (po_X2_isBarred X.cI X.cJ hX2 aX2_tried aX2_triedLeave aX2_numbers aX2_weights aX2_weightsAhead aX2_grains aX2_placeFrom aX2_first n_barred n_limit n_size n_parts n_wanted n_found Q)) : ∀ (k0 : Int), r32 k0 → wp_X2_isBarred_19 Q n_barred k0 → Wat X 0 0 19 [] [.int (i32 k0)] [(hX2, .inr (2, [.ref aX2_tried, .ref aX2_triedLeave, .ref aX2_numbers, .ref aX2_weights, .ref aX2_weightsAhead, .ref aX2_grains, .ref aX2_placeFrom, .ref aX2_first, .long (i64 n_barred), .int (i32 n_limit), .int (i32 n_size), .long (i64 n_parts), .long (i64 n_wanted), .int (i32 n_found)]))] := by
  intro k0 r_k0 h
  rw [wp_X2_isBarred_19] at h
  obtain ⟨z19, h⟩ := h
  exact q_zret g hF z19 ⟨k0, rfl, rfl, r_k0, h⟩ dX2_isBarred_19
def wp_X2_isBarred (Q : Int → Prop) (n_barred : Int) (l1 : Int) : Prop := wp_X4_bit (fun (x5 : Int) => (((land64 n_barred x5) = 0 → wp_X2_isBarred_19 Q n_barred 0) ∧
  (¬ ((land64 n_barred x5) = 0) → wp_X2_isBarred_19 Q n_barred 1))) l1
set_option maxHeartbeats 4000000 in
set_option maxRecDepth 100000 in
theorem c_X2_isBarred (l : Launch) (D : va_G) (cI cJ : ClassId) (zt : Nat) (hX2 : Nat) (aX2_tried : Nat) (aX2_triedLeave : Nat) (aX2_numbers : Nat) (aX2_weights : Nat) (aX2_weightsAhead : Nat) (aX2_grains : Nat) (aX2_placeFrom : Nat) (aX2_first : Nat) (n_barred : Int) (n_limit : Int) (n_size : Int) (n_parts : Int) (n_wanted : Int) (n_found : Int) (l1 : Int) (Q : Int → Prop) (r_n_barred : r64 n_barred) (r_l1 : r32 l1) (h : wp_X2_isBarred Q n_barred l1) : Ct l D cI cJ zt yX2_isBarred cX2_isBarred 2 (some .boolean) 2 0 0 [.ref hX2, .int (i32 l1)] [(hX2, .inr (2, [.ref aX2_tried, .ref aX2_triedLeave, .ref aX2_numbers, .ref aX2_weights, .ref aX2_weightsAhead, .ref aX2_grains, .ref aX2_placeFrom, .ref aX2_first, .long (i64 n_barred), .int (i32 n_limit), .int (i32 n_size), .long (i64 n_parts), .long (i64 n_wanted), .int (i32 n_found)]))] (po_X2_isBarred cI cJ hX2 aX2_tried aX2_triedLeave aX2_numbers aX2_weights aX2_weightsAhead aX2_grains aX2_placeFrom aX2_first n_barred n_limit n_size n_parts n_wanted n_found Q) := by
  refine ct_of (by decide +kernel) (Nat.le_of_ble_eq_true rfl) (fun X hl hDD hcI hcJ hzt hR hF hnm g => ?_)
  subst hl; subst hDD; subst hcI; subst hcJ; subst hzt
  show Wat X 0 0 0 [(0, .ref hX2), (1, .int (i32 l1))] [] [(hX2, .inr (2, [.ref aX2_tried, .ref aX2_triedLeave, .ref aX2_numbers, .ref aX2_weights, .ref aX2_weightsAhead, .ref aX2_grains, .ref aX2_placeFrom, .ref aX2_first, .long (i64 n_barred), .int (i32 n_limit), .int (i32 n_size), .long (i64 n_parts), .long (i64 n_wanted), .int (i32 n_found)]))]
  replace g : Gd X cX2_isBarred RX2 (some .boolean) 2 := g
  rw [wp_X2_isBarred] at h
  refine q_aload_n g 0 0 rfl dX2_isBarred_0 ?_
  refine q_get (C := RX2) (T := TX2) (N := 14) g 56 inX2 0 8 rfl rfl (by decide) wF_X2_56 rfl dX2_isBarred_1 ?_
  refine q_iload_n g 1 1 rfl dX2_isBarred_4 ?_
  refine q_callS (lev := 1) (mc := 0) (ms := 0) (As := [.int (i32 l1)]) g 113 (c_X4_bit X.l X.D X.cI X.cJ X.zt l1 _ r_l1 h) (wr := [(hX2, .inr (2, [.ref aX2_tried, .ref aX2_triedLeave, .ref aX2_numbers, .ref aX2_weights, .ref aX2_weightsAhead, .ref aX2_grains, .ref aX2_placeFrom, .ref aX2_first, .long (i64 n_barred), .int (i32 n_limit), .int (i32 n_size), .long (i64 n_parts), .long (i64 n_wanted), .int (i32 n_found)]))]) [] [0] rfl rfl rfl (by decide) (by decide) (by decide) wM_X2_113 wT_X4_bit wZ_X4 wC_X4_bit 1 rfl (by decide +kernel) (by rw [hR]; exact ⟨by show 1 + 1 ≤ 2; omega, by show 8 + (1 + 11) + 100 * 1 ≤ 100 * 2; omega⟩) (by rw [hR]; exact ⟨Nat.le_refl _, Nat.le_refl _⟩) (Nat.le_of_ble_eq_true rfl) rfl dX2_isBarred_5 (fun rv w1 hq => ?_)
  obtain ⟨x5, rfl, rfl, rx5, h⟩ := hq
  show Wat X 0 0 8 [(0, .ref hX2), (1, .int (i32 l1))] [.long (i64 x5), .long (i64 n_barred)] [(hX2, .inr (2, [.ref aX2_tried, .ref aX2_triedLeave, .ref aX2_numbers, .ref aX2_weights, .ref aX2_weightsAhead, .ref aX2_grains, .ref aX2_placeFrom, .ref aX2_first, .long (i64 n_barred), .int (i32 n_limit), .int (i32 n_size), .long (i64 n_parts), .long (i64 n_wanted), .int (i32 n_found)]))]
  refine q_land g dX2_isBarred_8 ?_
  refine q_lconst g 0 0 rfl dX2_isBarred_9 ?_
  refine q_lcmp_eq g (7) 18 (r_land64 _ _) (r64_lit _ (by decide)) (by decide) dX2_isBarred_10 dX2_isBarred_11 (fun b10 => ?_) (fun b10 => ?_)
  · replace h := h.1 b10
    refine q_iconst g (0) dX2_isBarred_18 ?_
    refine q_lv (lv' := []) [] rfl ?_
    exact s_X2_isBarred_19 g hR hX2 aX2_tried aX2_triedLeave aX2_numbers aX2_weights aX2_weightsAhead aX2_grains aX2_placeFrom aX2_first n_limit n_size n_parts n_wanted n_found n_barred r_n_barred Q hF 0 (r32_lit _ (by decide)) h
  replace h := h.2 b10
  refine q_iconst g (1) dX2_isBarred_14 ?_
  refine q_goto g (4) 19 (by decide) dX2_isBarred_15 ?_
  refine q_lv (lv' := []) [] rfl ?_
  exact s_X2_isBarred_19 g hR hX2 aX2_tried aX2_triedLeave aX2_numbers aX2_weights aX2_weightsAhead aX2_grains aX2_placeFrom aX2_first n_limit n_size n_parts n_wanted n_found n_barred r_n_barred Q hF 1 (r32_lit _ (by decide)) h
theorem dX2_findParts_0 : decode cX2_findParts 0 = .ok (.aload_n 0, 1) := by decide +kernel
theorem dX2_findParts_1 : decode cX2_findParts 1 = .ok (.lconst 1, 1) := by decide +kernel
theorem dX2_findParts_2 : decode cX2_findParts 2 = .ok (.putfield 67, 3) := by decide +kernel
theorem dX2_findParts_5 : decode cX2_findParts 5 = .ok (.iconst 2, 1) := by decide +kernel
theorem dX2_findParts_6 : decode cX2_findParts 6 = .ok (.istore_n 1, 1) := by decide +kernel
theorem dX2_findParts_7 : decode cX2_findParts 7 = .ok (.iload_n 1, 1) := by decide +kernel
theorem dX2_findParts_8 : decode cX2_findParts 8 = .ok (.aload_n 0, 1) := by decide +kernel
theorem dX2_findParts_9 : decode cX2_findParts 9 = .ok (.getfield 45, 3) := by decide +kernel
theorem dX2_findParts_12 : decode cX2_findParts 12 = .ok (.if_icmp .gt 51, 3) := by decide +kernel
theorem dX2_findParts_15 : decode cX2_findParts 15 = .ok (.aload_n 0, 1) := by decide +kernel
theorem dX2_findParts_16 : decode cX2_findParts 16 = .ok (.iload_n 1, 1) := by decide +kernel
theorem dX2_findParts_17 : decode cX2_findParts 17 = .ok (.invokevirtual 109, 3) := by decide +kernel
theorem dX2_findParts_20 : decode cX2_findParts 20 = .ok (.ifCond .ne 24, 3) := by decide +kernel
theorem dX2_findParts_23 : decode cX2_findParts 23 = .ok (.aload_n 0, 1) := by decide +kernel
theorem dX2_findParts_24 : decode cX2_findParts 24 = .ok (.dup, 1) := by decide +kernel
theorem dX2_findParts_25 : decode cX2_findParts 25 = .ok (.getfield 67, 3) := by decide +kernel
theorem dX2_findParts_28 : decode cX2_findParts 28 = .ok (.iload_n 1, 1) := by decide +kernel
theorem dX2_findParts_29 : decode cX2_findParts 29 = .ok (.i2l, 1) := by decide +kernel
theorem dX2_findParts_30 : decode cX2_findParts 30 = .ok (.aload_n 0, 1) := by decide +kernel
theorem dX2_findParts_31 : decode cX2_findParts 31 = .ok (.getfield 67, 3) := by decide +kernel
theorem dX2_findParts_34 : decode cX2_findParts 34 = .ok (.iload_n 1, 1) := by decide +kernel
theorem dX2_findParts_35 : decode cX2_findParts 35 = .ok (.i2l, 1) := by decide +kernel
theorem dX2_findParts_36 : decode cX2_findParts 36 = .ok (.invokestatic 117, 3) := by decide +kernel
theorem dX2_findParts_39 : decode cX2_findParts 39 = .ok (.ldiv, 1) := by decide +kernel
theorem dX2_findParts_40 : decode cX2_findParts 40 = .ok (.lmul, 1) := by decide +kernel
theorem dX2_findParts_41 : decode cX2_findParts 41 = .ok (.putfield 67, 3) := by decide +kernel
theorem dX2_findParts_44 : decode cX2_findParts 44 = .ok (.aload_n 0, 1) := by decide +kernel
theorem dX2_findParts_45 : decode cX2_findParts 45 = .ok (.getfield 67, 3) := by decide +kernel
theorem dX2_findParts_48 : decode cX2_findParts 48 = .ok (.ldc2_w 120, 3) := by decide +kernel
theorem dX2_findParts_51 : decode cX2_findParts 51 = .ok (.lcmp, 1) := by decide +kernel
theorem dX2_findParts_52 : decode cX2_findParts 52 = .ok (.ifCond .le 5, 3) := by decide +kernel
theorem dX2_findParts_55 : decode cX2_findParts 55 = .ok (.iconst 0, 1) := by decide +kernel
theorem dX2_findParts_56 : decode cX2_findParts 56 = .ok (.ireturn, 1) := by decide +kernel
theorem dX2_findParts_57 : decode cX2_findParts 57 = .ok (.iinc 1 1, 3) := by decide +kernel
theorem dX2_findParts_60 : decode cX2_findParts 60 = .ok (.goto (-53), 3) := by decide +kernel
theorem dX2_findParts_63 : decode cX2_findParts 63 = .ok (.iconst 1, 1) := by decide +kernel
theorem dX2_findParts_64 : decode cX2_findParts 64 = .ok (.ireturn, 1) := by decide +kernel
abbrev po_X2_findParts (cI cJ : ClassId) (hX2 : Nat) (aX2_tried : Nat) (aX2_triedLeave : Nat) (aX2_numbers : Nat) (aX2_weights : Nat) (aX2_weightsAhead : Nat) (aX2_grains : Nat) (aX2_placeFrom : Nat) (aX2_first : Nat) (n_barred : Int) (n_limit : Int) (n_size : Int) (n_wanted : Int) (n_found : Int) (Q : Int → Int → Prop) : Option Value → va_W → Prop := fun rv w1 => ∃ (r0 : Int) (n_parts : Int), rv = some (.int (i32 r0)) ∧ w1 = [(hX2, .inr (2, [.ref aX2_tried, .ref aX2_triedLeave, .ref aX2_numbers, .ref aX2_weights, .ref aX2_weightsAhead, .ref aX2_grains, .ref aX2_placeFrom, .ref aX2_first, .long (i64 n_barred), .int (i32 n_limit), .int (i32 n_size), .long (i64 n_parts), .long (i64 n_wanted), .int (i32 n_found)]))] ∧ r32 r0 ∧ r64 n_parts ∧ Q r0 n_parts
def wp_X2_findParts_44 (Q : Int → Int → Prop) (n_barred : Int) (n_limit : Int) (K_7 : Int → Int → Prop) (n_parts : Int) (l1 : Int) : Prop := ((n_parts ≤ 10000000000000000 → (r32 (l1 + 1) ∧ K_7 n_parts (l1 + 1))) ∧
  (¬ (n_parts ≤ 10000000000000000) → Q 0 n_parts))
set_option maxHeartbeats 4000000 in
set_option maxRecDepth 100000 in
theorem s_X2_findParts_44 {X : Cx} (g : Gd X cX2_findParts RX2 (some .boolean) 2) (hR : X.R = rmL 3 0 0) (hX2 : Nat) (aX2_tried : Nat) (aX2_triedLeave : Nat) (aX2_numbers : Nat) (aX2_weights : Nat) (aX2_weightsAhead : Nat) (aX2_grains : Nat) (aX2_placeFrom : Nat) (aX2_first : Nat) (n_size : Int) (n_wanted : Int) (n_found : Int) (n_barred : Int) (n_limit : Int) (r_n_barred : r64 n_barred) (r_n_limit : r32 n_limit) (Q : Int → Int → Prop) (hF : FQ X 0 0 (po_X2_findParts X.cI X.cJ hX2 aX2_tried aX2_triedLeave aX2_numbers aX2_weights aX2_weightsAhead aX2_grains aX2_placeFrom aX2_first n_barred n_limit n_size n_wanted n_found Q)) (K_7 : Int → Int → Prop) (hK_7 : ∀ (n_parts : Int) (l1 : Int), r64 n_parts → r32 l1 → K_7 n_parts l1 → Wat X 0 0 7 [(0, .ref hX2), (1, .int (i32 l1))] [] [(hX2, .inr (2, [.ref aX2_tried, .ref aX2_triedLeave, .ref aX2_numbers, .ref aX2_weights, .ref aX2_weightsAhead, .ref aX2_grains, .ref aX2_placeFrom, .ref aX2_first, .long (i64 n_barred), .int (i32 n_limit), .int (i32 n_size), .long (i64 n_parts), .long (i64 n_wanted), .int (i32 n_found)]))]) : ∀ (n_parts : Int) (l1 : Int), r64 n_parts → r32 l1 → wp_X2_findParts_44 Q n_barred n_limit K_7 n_parts l1 → Wat X 0 0 44 [(0, .ref hX2), (1, .int (i32 l1))] [] [(hX2, .inr (2, [.ref aX2_tried, .ref aX2_triedLeave, .ref aX2_numbers, .ref aX2_weights, .ref aX2_weightsAhead, .ref aX2_grains, .ref aX2_placeFrom, .ref aX2_first, .long (i64 n_barred), .int (i32 n_limit), .int (i32 n_size), .long (i64 n_parts), .long (i64 n_wanted), .int (i32 n_found)]))] := by
  intro n_parts l1 r_n_parts r_l1 h
  rw [wp_X2_findParts_44] at h
  refine q_aload_n g 0 0 rfl dX2_findParts_44 ?_
  refine q_get (C := RX2) (T := TX2) (N := 14) g 67 inX2 0 11 rfl rfl (by decide) wF_X2_67 rfl dX2_findParts_45 ?_
  refine q_ldc2 (w := 10000000000000000) g 120 (10000000000000000) (by decide +kernel) wL_X2_120 dX2_findParts_48 ?_
  refine q_lcmp_le g (5) 57 r_n_parts (r64_lit _ (by decide)) (by decide) dX2_findParts_51 dX2_findParts_52 (fun b51 => ?_) (fun b51 => ?_)
  · replace h := h.1 b51
    obtain ⟨c57, h⟩ := h
    refine q_iinc (lv' := [(1, .int (i32 (l1 + 1))), (0, .ref hX2)]) g 1 1 1 (by decide) rfl rfl dX2_findParts_57 ?_
    refine q_goto g (-53) 7 (by decide) dX2_findParts_60 ?_
    refine q_lv (lv' := [(0, .ref hX2), (1, .int (i32 (l1 + 1)))]) [1, 0] rfl ?_
    exact hK_7 n_parts (l1 + 1) r_n_parts c57 h
  replace h := h.2 b51
  refine q_iconst g (0) dX2_findParts_55 ?_
  exact q_zret g hF (by decide) ⟨0, n_parts, rfl, rfl, (r32_lit _ (by decide)), r_n_parts, h⟩ dX2_findParts_56
def wp_X2_findParts_7 (Q : Int → Int → Prop) (n_barred : Int) (n_limit : Int) : Nat → Int → Int → Prop
  | 0, _, _ => False
  | n + 1, n_parts, l1 => ((n_limit < l1 → Q 1 n_parts) ∧
  (¬ (n_limit < l1) → wp_X2_isBarred (fun (x17 : Int) => ((¬ x17 = 0 → wp_X2_findParts_44 Q n_barred n_limit (wp_X2_findParts_7 Q n_barred n_limit n) n_parts l1) ∧
  (x17 = 0 → wp_X7_commonDivisor (fun (x36 : Int) => (0 < x36 ∧ r64 (n_parts * (l1.tdiv x36)) ∧ ∀ x41 : Int, x41 = (n_parts * (l1.tdiv x36)) → wp_X2_findParts_44 Q n_barred n_limit (wp_X2_findParts_7 Q n_barred n_limit n) x41 l1)) n_parts l1))) n_barred l1))
set_option maxHeartbeats 4000000 in
set_option maxRecDepth 100000 in
theorem s_X2_findParts_7 {X : Cx} (g : Gd X cX2_findParts RX2 (some .boolean) 2) (hR : X.R = rmL 3 0 0) (hX2 : Nat) (aX2_tried : Nat) (aX2_triedLeave : Nat) (aX2_numbers : Nat) (aX2_weights : Nat) (aX2_weightsAhead : Nat) (aX2_grains : Nat) (aX2_placeFrom : Nat) (aX2_first : Nat) (n_size : Int) (n_wanted : Int) (n_found : Int) (n_barred : Int) (n_limit : Int) (r_n_barred : r64 n_barred) (r_n_limit : r32 n_limit) (Q : Int → Int → Prop) (hF : FQ X 0 0 (po_X2_findParts X.cI X.cJ hX2 aX2_tried aX2_triedLeave aX2_numbers aX2_weights aX2_weightsAhead aX2_grains aX2_placeFrom aX2_first n_barred n_limit n_size n_wanted n_found Q)) : ∀ (n : Nat) (n_parts : Int) (l1 : Int), r64 n_parts → r32 l1 → wp_X2_findParts_7 Q n_barred n_limit n n_parts l1 → Wat X 0 0 7 [(0, .ref hX2), (1, .int (i32 l1))] [] [(hX2, .inr (2, [.ref aX2_tried, .ref aX2_triedLeave, .ref aX2_numbers, .ref aX2_weights, .ref aX2_weightsAhead, .ref aX2_grains, .ref aX2_placeFrom, .ref aX2_first, .long (i64 n_barred), .int (i32 n_limit), .int (i32 n_size), .long (i64 n_parts), .long (i64 n_wanted), .int (i32 n_found)]))] := by
  intro n
  induction n with
  | zero => intro n_parts l1 r_n_parts r_l1 h; exact False.elim h
  | succ n ih =>
    intro n_parts l1 r_n_parts r_l1 h
    rw [wp_X2_findParts_7] at h
    refine q_iload_n g 1 1 rfl dX2_findParts_7 ?_
    refine q_aload_n g 0 0 rfl dX2_findParts_8 ?_
    refine q_get (C := RX2) (T := TX2) (N := 14) g 45 inX2 0 9 rfl rfl (by decide) wF_X2_45 rfl dX2_findParts_9 ?_
    refine q_icmp_gt g (51) 63 r_l1 r_n_limit (by decide) dX2_findParts_12 (fun b12 => ?_) (fun b12 => ?_)
    · replace h := h.1 b12
      refine q_iconst g (1) dX2_findParts_63 ?_
      exact q_zret g hF (by decide) ⟨1, n_parts, rfl, rfl, (r32_lit _ (by decide)), r_n_parts, h⟩ dX2_findParts_64
    replace h := h.2 b12
    refine q_aload_n g 0 0 rfl dX2_findParts_15 ?_
    refine q_iload_n g 1 1 rfl dX2_findParts_16 ?_
    refine q_callV (lev := 2) (mc := 0) (ms := 0) g 109 (c_X2_isBarred X.l X.D X.cI X.cJ X.zt hX2 aX2_tried aX2_triedLeave aX2_numbers aX2_weights aX2_weightsAhead aX2_grains aX2_placeFrom aX2_first n_barred n_limit n_size n_parts n_wanted n_found l1 _ r_n_barred r_l1 h) (wr := []) [0] [] rfl rfl rfl (by decide) (by decide) (by decide) (ci := 2) rfl rfl rfl wM_X2_109 wI_X2_isBarred wS_X2_isBarred wZ_X2 wC_X2_isBarred 1 rfl (by decide +kernel) (by rw [hR]; exact ⟨by show 2 + 1 ≤ 3; omega, by show 8 + (2 + 11) + 100 * 2 ≤ 100 * 3; omega⟩) (by rw [hR]; exact ⟨Nat.le_refl _, Nat.le_refl _⟩) (Nat.le_of_ble_eq_true rfl) rfl dX2_findParts_17 (fun rv w1 hq => ?_)
    obtain ⟨x17, rfl, rfl, rx17, h⟩ := hq
    show Wat X 0 0 20 [(0, .ref hX2), (1, .int (i32 l1))] [.int (i32 x17)] [(hX2, .inr (2, [.ref aX2_tried, .ref aX2_triedLeave, .ref aX2_numbers, .ref aX2_weights, .ref aX2_weightsAhead, .ref aX2_grains, .ref aX2_placeFrom, .ref aX2_first, .long (i64 n_barred), .int (i32 n_limit), .int (i32 n_size), .long (i64 n_parts), .long (i64 n_wanted), .int (i32 n_found)]))]
    refine q_if_ne g (24) 44 rx17 (by decide) dX2_findParts_20 (fun b20 => ?_) (fun b20 => ?_)
    · replace h := h.1 b20
      exact s_X2_findParts_44 g hR hX2 aX2_tried aX2_triedLeave aX2_numbers aX2_weights aX2_weightsAhead aX2_grains aX2_placeFrom aX2_first n_size n_wanted n_found n_barred n_limit r_n_barred r_n_limit Q hF (wp_X2_findParts_7 Q n_barred n_limit n) (fun v0 v1 w0 w1 hh => ih v0 v1 w0 w1 hh) n_parts l1 r_n_parts r_l1 h
    replace h := h.2 b20
    refine q_aload_n g 0 0 rfl dX2_findParts_23 ?_
    refine q_dup g rfl dX2_findParts_24 ?_
    refine q_get (C := RX2) (T := TX2) (N := 14) g 67 inX2 0 11 rfl rfl (by decide) wF_X2_67 rfl dX2_findParts_25 ?_
    refine q_iload_n g 1 1 rfl dX2_findParts_28 ?_
    refine q_i2l g r_l1 dX2_findParts_29 ?_
    refine q_aload_n g 0 0 rfl dX2_findParts_30 ?_
    refine q_get (C := RX2) (T := TX2) (N := 14) g 67 inX2 0 11 rfl rfl (by decide) wF_X2_67 rfl dX2_findParts_31 ?_
    refine q_iload_n g 1 1 rfl dX2_findParts_34 ?_
    refine q_i2l g r_l1 dX2_findParts_35 ?_
    refine q_callSN (lev := 2) (mc := 0) (ms := 0) (As := [.long (i64 n_parts), .long (i64 l1)]) (host := RX7) g 117 (c_X7_commonDivisor X.l X.D X.cI X.cJ X.zt n_parts l1 _ r_n_parts (r32_64 r_l1) h) (wr := [(hX2, .inr (2, [.ref aX2_tried, .ref aX2_triedLeave, .ref aX2_numbers, .ref aX2_weights, .ref aX2_weightsAhead, .ref aX2_grains, .ref aX2_placeFrom, .ref aX2_first, .long (i64 n_barred), .int (i32 n_limit), .int (i32 n_size), .long (i64 n_parts), .long (i64 n_wanted), .int (i32 n_found)]))]) [] [0] rfl rfl rfl (by decide) (by decide) (by decide) (List.mem_of_getElem? (i := 6) rfl) wT_X7_commonDivisor wZ_X7 wC_X7_commonDivisor 2 rfl (by decide +kernel) (by rw [hR]; exact ⟨by show 2 + 1 ≤ 3; omega, by show 8 + (11 + 11) + 100 * 2 ≤ 100 * 3; omega⟩) (by rw [hR]; exact ⟨Nat.le_refl _, Nat.le_refl _⟩) (Nat.le_of_ble_eq_true rfl) rfl dX2_findParts_36 (fun rv w1 hq => ?_)
    obtain ⟨x36, rfl, rfl, rx36, h⟩ := hq
    show Wat X 0 0 39 [(0, .ref hX2), (1, .int (i32 l1))] [.long (i64 x36), .long (i64 l1), .long (i64 n_parts), .ref hX2] [(hX2, .inr (2, [.ref aX2_tried, .ref aX2_triedLeave, .ref aX2_numbers, .ref aX2_weights, .ref aX2_weightsAhead, .ref aX2_grains, .ref aX2_placeFrom, .ref aX2_first, .long (i64 n_barred), .int (i32 n_limit), .int (i32 n_size), .long (i64 n_parts), .long (i64 n_wanted), .int (i32 n_found)]))]
    obtain ⟨c39, h⟩ := h
    refine q_ldiv g (r32_64 r_l1) rx36 (ne_of_pos c39) dX2_findParts_39 ?_
    obtain ⟨c40, h⟩ := h
    refine q_lmul g dX2_findParts_40 ?_
    refine q_topl c40 (fun x41 ex41 rx41 => ?_)
    replace h := h x41 ex41
    refine q_put (C := RX2) (T := TX2) (N := 14) (ty := .long) (ws' := [(hX2, .inr (2, [.ref aX2_tried, .ref aX2_triedLeave, .ref aX2_numbers, .ref aX2_weights, .ref aX2_weightsAhead, .ref aX2_grains, .ref aX2_placeFrom, .ref aX2_first, .long (i64 n_barred), .int (i32 n_limit), .int (i32 n_size), .long (i64 x41), .long (i64 n_wanted), .int (i32 n_found)]))]) g 67 inX2 tyX2_ok nmX2 0 11 rfl rfl (by decide) wF_X2_67 rfl rfl rfl rfl (Nat.le_of_ble_eq_true rfl) rfl dX2_findParts_41 ?_
    exact s_X2_findParts_44 g hR hX2 aX2_tried aX2_triedLeave aX2_numbers aX2_weights aX2_weightsAhead aX2_grains aX2_placeFrom aX2_first n_size n_wanted n_found n_barred n_limit r_n_barred r_n_limit Q hF (wp_X2_findParts_7 Q n_barred n_limit n) (fun v0 v1 w0 w1 hh => ih v0 v1 w0 w1 hh) x41 l1 rx41 r_l1 h
def wp_X2_findParts (Q : Int → Int → Prop) (n_barred : Int) (n_limit : Int) (n_parts : Int) : Prop := (∃ n0 : Nat, wp_X2_findParts_7 Q n_barred n_limit n0 1 2)
set_option maxHeartbeats 4000000 in
set_option maxRecDepth 100000 in
theorem c_X2_findParts (l : Launch) (D : va_G) (cI cJ : ClassId) (zt : Nat) (hX2 : Nat) (aX2_tried : Nat) (aX2_triedLeave : Nat) (aX2_numbers : Nat) (aX2_weights : Nat) (aX2_weightsAhead : Nat) (aX2_grains : Nat) (aX2_placeFrom : Nat) (aX2_first : Nat) (n_barred : Int) (n_limit : Int) (n_size : Int) (n_parts : Int) (n_wanted : Int) (n_found : Int) (Q : Int → Int → Prop) (r_n_barred : r64 n_barred) (r_n_limit : r32 n_limit) (r_n_parts : r64 n_parts) (h : wp_X2_findParts Q n_barred n_limit n_parts) : Ct l D cI cJ zt yX2_findParts cX2_findParts 2 (some .boolean) 3 0 0 [.ref hX2] [(hX2, .inr (2, [.ref aX2_tried, .ref aX2_triedLeave, .ref aX2_numbers, .ref aX2_weights, .ref aX2_weightsAhead, .ref aX2_grains, .ref aX2_placeFrom, .ref aX2_first, .long (i64 n_barred), .int (i32 n_limit), .int (i32 n_size), .long (i64 n_parts), .long (i64 n_wanted), .int (i32 n_found)]))] (po_X2_findParts cI cJ hX2 aX2_tried aX2_triedLeave aX2_numbers aX2_weights aX2_weightsAhead aX2_grains aX2_placeFrom aX2_first n_barred n_limit n_size n_wanted n_found Q) := by
  refine ct_of (by decide +kernel) (Nat.le_of_ble_eq_true rfl) (fun X hl hDD hcI hcJ hzt hR hF hnm g => ?_)
  subst hl; subst hDD; subst hcI; subst hcJ; subst hzt
  show Wat X 0 0 0 [(0, .ref hX2)] [] [(hX2, .inr (2, [.ref aX2_tried, .ref aX2_triedLeave, .ref aX2_numbers, .ref aX2_weights, .ref aX2_weightsAhead, .ref aX2_grains, .ref aX2_placeFrom, .ref aX2_first, .long (i64 n_barred), .int (i32 n_limit), .int (i32 n_size), .long (i64 n_parts), .long (i64 n_wanted), .int (i32 n_found)]))]
  replace g : Gd X cX2_findParts RX2 (some .boolean) 2 := g
  rw [wp_X2_findParts] at h
  refine q_aload_n g 0 0 rfl dX2_findParts_0 ?_
  refine q_lconst g 1 1 rfl dX2_findParts_1 ?_
  refine q_put (C := RX2) (T := TX2) (N := 14) (ty := .long) (ws' := [(hX2, .inr (2, [.ref aX2_tried, .ref aX2_triedLeave, .ref aX2_numbers, .ref aX2_weights, .ref aX2_weightsAhead, .ref aX2_grains, .ref aX2_placeFrom, .ref aX2_first, .long (i64 n_barred), .int (i32 n_limit), .int (i32 n_size), .long (i64 1), .long (i64 n_wanted), .int (i32 n_found)]))]) g 67 inX2 tyX2_ok nmX2 0 11 rfl rfl (by decide) wF_X2_67 rfl rfl rfl rfl (Nat.le_of_ble_eq_true rfl) rfl dX2_findParts_2 ?_
  refine q_iconst g (2) dX2_findParts_5 ?_
  refine q_istore_n (lv' := [(1, .int (i32 2)), (0, .ref hX2)]) g 1 1 rfl (by decide) rfl dX2_findParts_6 ?_
  refine q_lv (lv' := [(0, .ref hX2), (1, .int (i32 2))]) [1, 0] rfl ?_
  obtain ⟨n0, h⟩ := h
  exact s_X2_findParts_7 g hR hX2 aX2_tried aX2_triedLeave aX2_numbers aX2_weights aX2_weightsAhead aX2_grains aX2_placeFrom aX2_first n_size n_wanted n_found n_barred n_limit r_n_barred r_n_limit Q hF n0 1 2 (r64_lit _ (by decide)) (r32_lit _ (by decide)) h
theorem dX2_gather_0 : decode cX2_gather 0 = .ok (.iconst 0, 1) := by decide +kernel
theorem dX2_gather_1 : decode cX2_gather 1 = .ok (.istore_n 3, 1) := by decide +kernel
theorem dX2_gather_2 : decode cX2_gather 2 = .ok (.iconst 1, 1) := by decide +kernel
theorem dX2_gather_3 : decode cX2_gather 3 = .ok (.istore 4, 2) := by decide +kernel
theorem dX2_gather_5 : decode cX2_gather 5 = .ok (.iload_n 1, 1) := by decide +kernel
theorem dX2_gather_6 : decode cX2_gather 6 = .ok (.ifCond .le 66, 3) := by decide +kernel
theorem dX2_gather_9 : decode cX2_gather 9 = .ok (.iload 4, 2) := by decide +kernel
theorem dX2_gather_11 : decode cX2_gather 11 = .ok (.aload_n 0, 1) := by decide +kernel
theorem dX2_gather_12 : decode cX2_gather 12 = .ok (.getfield 45, 3) := by decide +kernel
theorem dX2_gather_15 : decode cX2_gather 15 = .ok (.iload_n 1, 1) := by decide +kernel
theorem dX2_gather_16 : decode cX2_gather 16 = .ok (.idiv, 1) := by decide +kernel
theorem dX2_gather_17 : decode cX2_gather 17 = .ok (.if_icmp .gt 55, 3) := by decide +kernel
theorem dX2_gather_20 : decode cX2_gather 20 = .ok (.aload_n 0, 1) := by decide +kernel
theorem dX2_gather_21 : decode cX2_gather 21 = .ok (.iload 4, 2) := by decide +kernel
theorem dX2_gather_23 : decode cX2_gather 23 = .ok (.iload_n 1, 1) := by decide +kernel
theorem dX2_gather_24 : decode cX2_gather 24 = .ok (.imul, 1) := by decide +kernel
theorem dX2_gather_25 : decode cX2_gather 25 = .ok (.invokevirtual 109, 3) := by decide +kernel
theorem dX2_gather_28 : decode cX2_gather 28 = .ok (.ifCond .ne 38, 3) := by decide +kernel
theorem dX2_gather_31 : decode cX2_gather 31 = .ok (.iload_n 3, 1) := by decide +kernel
theorem dX2_gather_32 : decode cX2_gather 32 = .ok (.iconst 5, 1) := by decide +kernel
theorem dX2_gather_33 : decode cX2_gather 33 = .ok (.if_icmp .lt 6, 3) := by decide +kernel
theorem dX2_gather_36 : decode cX2_gather 36 = .ok (.bipush 6, 2) := by decide +kernel
theorem dX2_gather_38 : decode cX2_gather 38 = .ok (.ireturn, 1) := by decide +kernel
theorem dX2_gather_39 : decode cX2_gather 39 = .ok (.aload_n 0, 1) := by decide +kernel
theorem dX2_gather_40 : decode cX2_gather 40 = .ok (.getfield 11, 3) := by decide +kernel
theorem dX2_gather_43 : decode cX2_gather 43 = .ok (.iload_n 3, 1) := by decide +kernel
theorem dX2_gather_44 : decode cX2_gather 44 = .ok (.iload 4, 2) := by decide +kernel
theorem dX2_gather_46 : decode cX2_gather 46 = .ok (.iload_n 1, 1) := by decide +kernel
theorem dX2_gather_47 : decode cX2_gather 47 = .ok (.imul, 1) := by decide +kernel
theorem dX2_gather_48 : decode cX2_gather 48 = .ok (.iastore, 1) := by decide +kernel
theorem dX2_gather_49 : decode cX2_gather 49 = .ok (.aload_n 0, 1) := by decide +kernel
theorem dX2_gather_50 : decode cX2_gather 50 = .ok (.getfield 15, 3) := by decide +kernel
theorem dX2_gather_53 : decode cX2_gather 53 = .ok (.iload_n 3, 1) := by decide +kernel
theorem dX2_gather_54 : decode cX2_gather 54 = .ok (.iload 4, 2) := by decide +kernel
theorem dX2_gather_56 : decode cX2_gather 56 = .ok (.i2l, 1) := by decide +kernel
theorem dX2_gather_57 : decode cX2_gather 57 = .ok (.iload_n 2, 1) := by decide +kernel
theorem dX2_gather_58 : decode cX2_gather 58 = .ok (.i2l, 1) := by decide +kernel
theorem dX2_gather_59 : decode cX2_gather 59 = .ok (.invokestatic 97, 3) := by decide +kernel
theorem dX2_gather_62 : decode cX2_gather 62 = .ok (.lastore, 1) := by decide +kernel
theorem dX2_gather_63 : decode cX2_gather 63 = .ok (.iinc 3 1, 3) := by decide +kernel
theorem dX2_gather_66 : decode cX2_gather 66 = .ok (.iinc 4 1, 3) := by decide +kernel
theorem dX2_gather_69 : decode cX2_gather 69 = .ok (.goto (-64), 3) := by decide +kernel
theorem dX2_gather_72 : decode cX2_gather 72 = .ok (.iload_n 3, 1) := by decide +kernel
theorem dX2_gather_73 : decode cX2_gather 73 = .ok (.ireturn, 1) := by decide +kernel
abbrev po_X2_gather (cI cJ : ClassId) (hX2 : Nat) (aX2_tried : Nat) (aX2_triedLeave : Nat) (aX2_numbers : Nat) (aX2_weights : Nat) (aX2_weightsAhead : Nat) (aX2_grains : Nat) (aX2_placeFrom : Nat) (aX2_first : Nat) (n_barred : Int) (n_limit : Int) (n_size : Int) (n_parts : Int) (n_wanted : Int) (n_found : Int) (Q : Int → (Int → Int) → (Int → Int) → Prop) : Option Value → va_W → Prop := fun rv w1 => ∃ (r0 : Int) (n_tried : Int → Int) (n_triedLeave : Int → Int), rv = some (.int (i32 r0)) ∧ w1 = [(hX2, .inr (2, [.ref aX2_tried, .ref aX2_triedLeave, .ref aX2_numbers, .ref aX2_weights, .ref aX2_weightsAhead, .ref aX2_grains, .ref aX2_placeFrom, .ref aX2_first, .long (i64 n_barred), .int (i32 n_limit), .int (i32 n_size), .long (i64 n_parts), .long (i64 n_wanted), .int (i32 n_found)])), (aX2_tried, aI cI 5 n_tried), (aX2_triedLeave, aL cJ 5 n_triedLeave)] ∧ r32 r0 ∧ rr32 n_tried ∧ rr64 n_triedLeave ∧ Q r0 n_tried n_triedLeave
def wp_X2_gather_66 (Q : Int → (Int → Int) → (Int → Int) → Prop) (n_barred : Int) (n_limit : Int) (K_5 : (Int → Int) → (Int → Int) → Int → Int → Int → Int → Prop) (n_tried : Int → Int) (n_triedLeave : Int → Int) (l1 : Int) (l2 : Int) (l3 : Int) (l4 : Int) : Prop := (r32 (l4 + 1) ∧ K_5 n_tried n_triedLeave l1 l2 l3 (l4 + 1))
set_option maxHeartbeats 4000000 in
set_option maxRecDepth 100000 in
theorem s_X2_gather_66 {X : Cx} (g : Gd X cX2_gather RX2 (some .int) 5) (hR : X.R = rmL 3 0 0) (hX2 : Nat) (aX2_tried : Nat) (aX2_triedLeave : Nat) (aX2_numbers : Nat) (aX2_weights : Nat) (aX2_weightsAhead : Nat) (aX2_grains : Nat) (aX2_placeFrom : Nat) (aX2_first : Nat) (n_size : Int) (n_parts : Int) (n_wanted : Int) (n_found : Int) (n_barred : Int) (n_limit : Int) (r_n_barred : r64 n_barred) (r_n_limit : r32 n_limit) (Q : Int → (Int → Int) → (Int → Int) → Prop) (hF : FQ X 0 0 (po_X2_gather X.cI X.cJ hX2 aX2_tried aX2_triedLeave aX2_numbers aX2_weights aX2_weightsAhead aX2_grains aX2_placeFrom aX2_first n_barred n_limit n_size n_parts n_wanted n_found Q)) (K_5 : (Int → Int) → (Int → Int) → Int → Int → Int → Int → Prop) (hK_5 : ∀ (n_tried : Int → Int) (n_triedLeave : Int → Int) (l1 : Int) (l2 : Int) (l3 : Int) (l4 : Int), rr32 n_tried → rr64 n_triedLeave → r32 l1 → r32 l2 → r32 l3 → r32 l4 → K_5 n_tried n_triedLeave l1 l2 l3 l4 → Wat X 0 0 5 [(0, .ref hX2), (1, .int (i32 l1)), (2, .int (i32 l2)), (3, .int (i32 l3)), (4, .int (i32 l4))] [] [(hX2, .inr (2, [.ref aX2_tried, .ref aX2_triedLeave, .ref aX2_numbers, .ref aX2_weights, .ref aX2_weightsAhead, .ref aX2_grains, .ref aX2_placeFrom, .ref aX2_first, .long (i64 n_barred), .int (i32 n_limit), .int (i32 n_size), .long (i64 n_parts), .long (i64 n_wanted), .int (i32 n_found)])), (aX2_tried, aI X.cI 5 n_tried), (aX2_triedLeave, aL X.cJ 5 n_triedLeave)]) : ∀ (n_tried : Int → Int) (n_triedLeave : Int → Int) (l1 : Int) (l2 : Int) (l3 : Int) (l4 : Int), rr32 n_tried → rr64 n_triedLeave → r32 l1 → r32 l2 → r32 l3 → r32 l4 → wp_X2_gather_66 Q n_barred n_limit K_5 n_tried n_triedLeave l1 l2 l3 l4 → Wat X 0 0 66 [(0, .ref hX2), (1, .int (i32 l1)), (2, .int (i32 l2)), (3, .int (i32 l3)), (4, .int (i32 l4))] [] [(hX2, .inr (2, [.ref aX2_tried, .ref aX2_triedLeave, .ref aX2_numbers, .ref aX2_weights, .ref aX2_weightsAhead, .ref aX2_grains, .ref aX2_placeFrom, .ref aX2_first, .long (i64 n_barred), .int (i32 n_limit), .int (i32 n_size), .long (i64 n_parts), .long (i64 n_wanted), .int (i32 n_found)])), (aX2_tried, aI X.cI 5 n_tried), (aX2_triedLeave, aL X.cJ 5 n_triedLeave)] := by
  intro n_tried n_triedLeave l1 l2 l3 l4 r_n_tried r_n_triedLeave r_l1 r_l2 r_l3 r_l4 h
  rw [wp_X2_gather_66] at h
  obtain ⟨c66, h⟩ := h
  refine q_iinc (lv' := [(4, .int (i32 (l4 + 1))), (0, .ref hX2), (1, .int (i32 l1)), (2, .int (i32 l2)), (3, .int (i32 l3))]) g 4 4 1 (by decide) rfl rfl dX2_gather_66 ?_
  refine q_goto g (-64) 5 (by decide) dX2_gather_69 ?_
  refine q_lv (lv' := [(0, .ref hX2), (1, .int (i32 l1)), (2, .int (i32 l2)), (3, .int (i32 l3)), (4, .int (i32 (l4 + 1)))]) [1, 2, 3, 4, 0] rfl ?_
  exact hK_5 n_tried n_triedLeave l1 l2 l3 (l4 + 1) r_n_tried r_n_triedLeave r_l1 r_l2 r_l3 c66 h
def wp_X2_gather_72 (Q : Int → (Int → Int) → (Int → Int) → Prop) (n_barred : Int) (n_limit : Int) (n_tried : Int → Int) (n_triedLeave : Int → Int) (l3 : Int) : Prop := Q l3 n_tried n_triedLeave
set_option maxHeartbeats 4000000 in
set_option maxRecDepth 100000 in
theorem s_X2_gather_72 {X : Cx} (g : Gd X cX2_gather RX2 (some .int) 5) (hR : X.R = rmL 3 0 0) (hX2 : Nat) (aX2_tried : Nat) (aX2_triedLeave : Nat) (aX2_numbers : Nat) (aX2_weights : Nat) (aX2_weightsAhead : Nat) (aX2_grains : Nat) (aX2_placeFrom : Nat) (aX2_first : Nat) (n_size : Int) (n_parts : Int) (n_wanted : Int) (n_found : Int) (n_barred : Int) (n_limit : Int) (r_n_barred : r64 n_barred) (r_n_limit : r32 n_limit) (Q : Int → (Int → Int) → (Int → Int) → Prop) (hF : FQ X 0 0 (po_X2_gather X.cI X.cJ hX2 aX2_tried aX2_triedLeave aX2_numbers aX2_weights aX2_weightsAhead aX2_grains aX2_placeFrom aX2_first n_barred n_limit n_size n_parts n_wanted n_found Q)) : ∀ (n_tried : Int → Int) (n_triedLeave : Int → Int) (l3 : Int), rr32 n_tried → rr64 n_triedLeave → r32 l3 → wp_X2_gather_72 Q n_barred n_limit n_tried n_triedLeave l3 → Wat X 0 0 72 [(3, .int (i32 l3))] [] [(hX2, .inr (2, [.ref aX2_tried, .ref aX2_triedLeave, .ref aX2_numbers, .ref aX2_weights, .ref aX2_weightsAhead, .ref aX2_grains, .ref aX2_placeFrom, .ref aX2_first, .long (i64 n_barred), .int (i32 n_limit), .int (i32 n_size), .long (i64 n_parts), .long (i64 n_wanted), .int (i32 n_found)])), (aX2_tried, aI X.cI 5 n_tried), (aX2_triedLeave, aL X.cJ 5 n_triedLeave)] := by
  intro n_tried n_triedLeave l3 r_n_tried r_n_triedLeave r_l3 h
  rw [wp_X2_gather_72] at h
  refine q_iload_n g 3 0 rfl dX2_gather_72 ?_
  exact q_iret g hF ⟨l3, n_tried, n_triedLeave, rfl, rfl, r_l3, r_n_tried, r_n_triedLeave, h⟩ dX2_gather_73
def wp_X2_gather_5 (Q : Int → (Int → Int) → (Int → Int) → Prop) (n_barred : Int) (n_limit : Int) : Nat → (Int → Int) → (Int → Int) → Int → Int → Int → Int → Prop
  | 0, _, _, _, _, _, _ => False
  | n + 1, n_tried, n_triedLeave, l1, l2, l3, l4 => ((l1 ≤ 0 → wp_X2_gather_72 Q n_barred n_limit n_tried n_triedLeave l3) ∧
  (¬ (l1 ≤ 0) → (0 < l1 ∧ (((n_limit.tdiv l1) < l4 → wp_X2_gather_72 Q n_barred n_limit n_tried n_triedLeave l3) ∧
  (¬ ((n_limit.tdiv l1) < l4) → (r32 (l4 * l1) ∧ wp_X2_isBarred (fun (x25 : Int) => ((¬ x25 = 0 → wp_X2_gather_66 Q n_barred n_limit (wp_X2_gather_5 Q n_barred n_limit n) n_tried n_triedLeave l1 l2 l3 l4) ∧
  (x25 = 0 → ((l3 < 5 → (r32 (l4 * l1) ∧ ∀ x48 : Int, x48 = (l4 * l1) → 0 ≤ l3 ∧ l3 < 5 ∧ wp_X7_inverse (fun (x59 : Int) => (0 ≤ l3 ∧ l3 < 5 ∧ r32 (l3 + 1) ∧ wp_X2_gather_66 Q n_barred n_limit (wp_X2_gather_5 Q n_barred n_limit n) (ups n_tried l3 x48) (ups n_triedLeave l3 x59) l1 l2 (l3 + 1) l4)) l4 l2)) ∧
  (¬ (l3 < 5) → Q 6 n_tried n_triedLeave))))) n_barred (l4 * l1)))))))
set_option maxHeartbeats 4000000 in
set_option maxRecDepth 100000 in
theorem s_X2_gather_5 {X : Cx} (g : Gd X cX2_gather RX2 (some .int) 5) (hR : X.R = rmL 3 0 0) (hX2 : Nat) (aX2_tried : Nat) (aX2_triedLeave : Nat) (aX2_numbers : Nat) (aX2_weights : Nat) (aX2_weightsAhead : Nat) (aX2_grains : Nat) (aX2_placeFrom : Nat) (aX2_first : Nat) (n_size : Int) (n_parts : Int) (n_wanted : Int) (n_found : Int) (n_barred : Int) (n_limit : Int) (r_n_barred : r64 n_barred) (r_n_limit : r32 n_limit) (Q : Int → (Int → Int) → (Int → Int) → Prop) (hF : FQ X 0 0 (po_X2_gather X.cI X.cJ hX2 aX2_tried aX2_triedLeave aX2_numbers aX2_weights aX2_weightsAhead aX2_grains aX2_placeFrom aX2_first n_barred n_limit n_size n_parts n_wanted n_found Q)) : ∀ (n : Nat) (n_tried : Int → Int) (n_triedLeave : Int → Int) (l1 : Int) (l2 : Int) (l3 : Int) (l4 : Int), rr32 n_tried → rr64 n_triedLeave → r32 l1 → r32 l2 → r32 l3 → r32 l4 → wp_X2_gather_5 Q n_barred n_limit n n_tried n_triedLeave l1 l2 l3 l4 → Wat X 0 0 5 [(0, .ref hX2), (1, .int (i32 l1)), (2, .int (i32 l2)), (3, .int (i32 l3)), (4, .int (i32 l4))] [] [(hX2, .inr (2, [.ref aX2_tried, .ref aX2_triedLeave, .ref aX2_numbers, .ref aX2_weights, .ref aX2_weightsAhead, .ref aX2_grains, .ref aX2_placeFrom, .ref aX2_first, .long (i64 n_barred), .int (i32 n_limit), .int (i32 n_size), .long (i64 n_parts), .long (i64 n_wanted), .int (i32 n_found)])), (aX2_tried, aI X.cI 5 n_tried), (aX2_triedLeave, aL X.cJ 5 n_triedLeave)] := by
  intro n
  induction n with
  | zero => intro n_tried n_triedLeave l1 l2 l3 l4 r_n_tried r_n_triedLeave r_l1 r_l2 r_l3 r_l4 h; exact False.elim h
  | succ n ih =>
    intro n_tried n_triedLeave l1 l2 l3 l4 r_n_tried r_n_triedLeave r_l1 r_l2 r_l3 r_l4 h
    rw [wp_X2_gather_5] at h
    refine q_iload_n g 1 1 rfl dX2_gather_5 ?_
    refine q_if_le g (66) 72 r_l1 (by decide) dX2_gather_6 (fun b6 => ?_) (fun b6 => ?_)
    · replace h := h.1 b6
      refine q_lv (lv' := [(3, .int (i32 l3))]) [3] rfl ?_
      exact s_X2_gather_72 g hR hX2 aX2_tried aX2_triedLeave aX2_numbers aX2_weights aX2_weightsAhead aX2_grains aX2_placeFrom aX2_first n_size n_parts n_wanted n_found n_barred n_limit r_n_barred r_n_limit Q hF n_tried n_triedLeave l3 r_n_tried r_n_triedLeave r_l3 h
    replace h := h.2 b6
    refine q_iload g 4 4 rfl dX2_gather_9 ?_
    refine q_aload_n g 0 0 rfl dX2_gather_11 ?_
    refine q_get (C := RX2) (T := TX2) (N := 14) g 45 inX2 0 9 rfl rfl (by decide) wF_X2_45 rfl dX2_gather_12 ?_
    refine q_iload_n g 1 1 rfl dX2_gather_15 ?_
    obtain ⟨c16, h⟩ := h
    refine q_idiv g r_n_limit r_l1 (ne_of_pos c16) dX2_gather_16 ?_
    refine q_icmp_gt g (55) 72 r_l4 (r32_tdiv r_n_limit c16) (by decide) dX2_gather_17 (fun b17 => ?_) (fun b17 => ?_)
    · replace h := h.1 b17
      refine q_lv (lv' := [(3, .int (i32 l3))]) [3] rfl ?_
      exact s_X2_gather_72 g hR hX2 aX2_tried aX2_triedLeave aX2_numbers aX2_weights aX2_weightsAhead aX2_grains aX2_placeFrom aX2_first n_size n_parts n_wanted n_found n_barred n_limit r_n_barred r_n_limit Q hF n_tried n_triedLeave l3 r_n_tried r_n_triedLeave r_l3 h
    replace h := h.2 b17
    refine q_aload_n g 0 0 rfl dX2_gather_20 ?_
    refine q_iload g 4 4 rfl dX2_gather_21 ?_
    refine q_iload_n g 1 1 rfl dX2_gather_23 ?_
    obtain ⟨c24, h⟩ := h
    refine q_imul g dX2_gather_24 ?_
    refine q_callV (lev := 2) (mc := 0) (ms := 0) g 109 (c_X2_isBarred X.l X.D X.cI X.cJ X.zt hX2 aX2_tried aX2_triedLeave aX2_numbers aX2_weights aX2_weightsAhead aX2_grains aX2_placeFrom aX2_first n_barred n_limit n_size n_parts n_wanted n_found (l4 * l1) _ r_n_barred c24 h) (wr := [(aX2_tried, aI X.cI 5 n_tried), (aX2_triedLeave, aL X.cJ 5 n_triedLeave)]) [0] [1, 2] rfl rfl rfl (by decide) (by decide) (by decide) (ci := 2) rfl rfl rfl wM_X2_109 wI_X2_isBarred wS_X2_isBarred wZ_X2 wC_X2_isBarred 1 rfl (by decide +kernel) (by rw [hR]; exact ⟨by show 2 + 1 ≤ 3; omega, by show 8 + (2 + 11) + 100 * 2 ≤ 100 * 3; omega⟩) (by rw [hR]; exact ⟨Nat.le_refl _, Nat.le_refl _⟩) (Nat.le_of_ble_eq_true rfl) rfl dX2_gather_25 (fun rv w1 hq => ?_)
    obtain ⟨x25, rfl, rfl, rx25, h⟩ := hq
    refine q_ws (ws' := [(hX2, .inr (2, [.ref aX2_tried, .ref aX2_triedLeave, .ref aX2_numbers, .ref aX2_weights, .ref aX2_weightsAhead, .ref aX2_grains, .ref aX2_placeFrom, .ref aX2_first, .long (i64 n_barred), .int (i32 n_limit), .int (i32 n_size), .long (i64 n_parts), .long (i64 n_wanted), .int (i32 n_found)])), (aX2_tried, aI X.cI 5 n_tried), (aX2_triedLeave, aL X.cJ 5 n_triedLeave)]) [2, 0, 1] (by decide) rfl rfl ?_
    show Wat X 0 0 28 [(0, .ref hX2), (1, .int (i32 l1)), (2, .int (i32 l2)), (3, .int (i32 l3)), (4, .int (i32 l4))] [.int (i32 x25)] [(hX2, .inr (2, [.ref aX2_tried, .ref aX2_triedLeave, .ref aX2_numbers, .ref aX2_weights, .ref aX2_weightsAhead, .ref aX2_grains, .ref aX2_placeFrom, .ref aX2_first, .long (i64 n_barred), .int (i32 n_limit), .int (i32 n_size), .long (i64 n_parts), .long (i64 n_wanted), .int (i32 n_found)])), (aX2_tried, aI X.cI 5 n_tried), (aX2_triedLeave, aL X.cJ 5 n_triedLeave)]
    refine q_if_ne g (38) 66 rx25 (by decide) dX2_gather_28 (fun b28 => ?_) (fun b28 => ?_)
    · replace h := h.1 b28
      exact s_X2_gather_66 g hR hX2 aX2_tried aX2_triedLeave aX2_numbers aX2_weights aX2_weightsAhead aX2_grains aX2_placeFrom aX2_first n_size n_parts n_wanted n_found n_barred n_limit r_n_barred r_n_limit Q hF (wp_X2_gather_5 Q n_barred n_limit n) (fun v0 v1 v2 v3 v4 v5 w0 w1 w2 w3 w4 w5 hh => ih v0 v1 v2 v3 v4 v5 w0 w1 w2 w3 w4 w5 hh) n_tried n_triedLeave l1 l2 l3 l4 r_n_tried r_n_triedLeave r_l1 r_l2 r_l3 r_l4 h
    replace h := h.2 b28
    refine q_iload_n g 3 3 rfl dX2_gather_31 ?_
    refine q_iconst g (5) dX2_gather_32 ?_
    refine q_icmp_lt g (6) 39 r_l3 (r32_lit _ (by decide)) (by decide) dX2_gather_33 (fun b33 => ?_) (fun b33 => ?_)
    · replace h := h.1 b33
      refine q_aload_n g 0 0 rfl dX2_gather_39 ?_
      refine q_get (C := RX2) (T := TX2) (N := 14) g 11 inX2 0 0 rfl rfl (by decide) wF_X2_11 rfl dX2_gather_40 ?_
      refine q_iload_n g 3 3 rfl dX2_gather_43 ?_
      refine q_iload g 4 4 rfl dX2_gather_44 ?_
      refine q_iload_n g 1 1 rfl dX2_gather_46 ?_
      obtain ⟨c47, h⟩ := h
      refine q_imul g dX2_gather_47 ?_
      refine q_topi c47 (fun x48 ex48 rx48 => ?_)
      replace h := h x48 ex48
      obtain ⟨c48, h⟩ := h
      obtain ⟨e48, h⟩ := h
      refine q_iast (ws' := [(hX2, .inr (2, [.ref aX2_tried, .ref aX2_triedLeave, .ref aX2_numbers, .ref aX2_weights, .ref aX2_weightsAhead, .ref aX2_grains, .ref aX2_placeFrom, .ref aX2_first, .long (i64 n_barred), .int (i32 n_limit), .int (i32 n_size), .long (i64 n_parts), .long (i64 n_wanted), .int (i32 n_found)])), (aX2_tried, aI X.cI 5 (ups n_tried l3 x48)), (aX2_triedLeave, aL X.cJ 5 n_triedLeave)]) g 1 rfl c48 e48 (by decide) rfl dX2_gather_48 ?_
      refine q_aload_n g 0 0 rfl dX2_gather_49 ?_
      refine q_get (C := RX2) (T := TX2) (N := 14) g 15 inX2 0 1 rfl rfl (by decide) wF_X2_15 rfl dX2_gather_50 ?_
      refine q_iload_n g 3 3 rfl dX2_gather_53 ?_
      refine q_iload g 4 4 rfl dX2_gather_54 ?_
      refine q_i2l g r_l4 dX2_gather_56 ?_
      refine q_iload_n g 2 2 rfl dX2_gather_57 ?_
      refine q_i2l g r_l2 dX2_gather_58 ?_
      refine q_callSN (lev := 2) (mc := 0) (ms := 0) (As := [.long (i64 l4), .long (i64 l2)]) (host := RX7) g 97 (c_X7_inverse X.l X.D X.cI X.cJ X.zt l4 l2 _ (r32_64 r_l4) (r32_64 r_l2) h) (wr := [(hX2, .inr (2, [.ref aX2_tried, .ref aX2_triedLeave, .ref aX2_numbers, .ref aX2_weights, .ref aX2_weightsAhead, .ref aX2_grains, .ref aX2_placeFrom, .ref aX2_first, .long (i64 n_barred), .int (i32 n_limit), .int (i32 n_size), .long (i64 n_parts), .long (i64 n_wanted), .int (i32 n_found)])), (aX2_tried, aI X.cI 5 (ups n_tried l3 x48)), (aX2_triedLeave, aL X.cJ 5 n_triedLeave)]) [] [0, 1, 2] rfl rfl rfl (by decide) (by decide) (by decide) (List.mem_of_getElem? (i := 5) rfl) wT_X7_inverse wZ_X7 wC_X7_inverse 2 rfl (by decide +kernel) (by rw [hR]; exact ⟨by show 2 + 1 ≤ 3; omega, by show 8 + (19 + 11) + 100 * 2 ≤ 100 * 3; omega⟩) (by rw [hR]; exact ⟨Nat.le_refl _, Nat.le_refl _⟩) (Nat.le_of_ble_eq_true rfl) rfl dX2_gather_59 (fun rv w1 hq => ?_)
      obtain ⟨x59, rfl, rfl, rx59, h⟩ := hq
      show Wat X 0 0 62 [(0, .ref hX2), (1, .int (i32 l1)), (2, .int (i32 l2)), (3, .int (i32 l3)), (4, .int (i32 l4))] [.long (i64 x59), .int (i32 l3), .ref aX2_triedLeave] [(hX2, .inr (2, [.ref aX2_tried, .ref aX2_triedLeave, .ref aX2_numbers, .ref aX2_weights, .ref aX2_weightsAhead, .ref aX2_grains, .ref aX2_placeFrom, .ref aX2_first, .long (i64 n_barred), .int (i32 n_limit), .int (i32 n_size), .long (i64 n_parts), .long (i64 n_wanted), .int (i32 n_found)])), (aX2_tried, aI X.cI 5 (ups n_tried l3 x48)), (aX2_triedLeave, aL X.cJ 5 n_triedLeave)]
      obtain ⟨c62, h⟩ := h
      obtain ⟨e62, h⟩ := h
      refine q_last (ws' := [(hX2, .inr (2, [.ref aX2_tried, .ref aX2_triedLeave, .ref aX2_numbers, .ref aX2_weights, .ref aX2_weightsAhead, .ref aX2_grains, .ref aX2_placeFrom, .ref aX2_first, .long (i64 n_barred), .int (i32 n_limit), .int (i32 n_size), .long (i64 n_parts), .long (i64 n_wanted), .int (i32 n_found)])), (aX2_tried, aI X.cI 5 (ups n_tried l3 x48)), (aX2_triedLeave, aL X.cJ 5 (ups n_triedLeave l3 x59))]) g 2 rfl c62 e62 (by decide) rfl dX2_gather_62 ?_
      obtain ⟨c63, h⟩ := h
      refine q_iinc (lv' := [(3, .int (i32 (l3 + 1))), (0, .ref hX2), (1, .int (i32 l1)), (2, .int (i32 l2)), (4, .int (i32 l4))]) g 3 3 1 (by decide) rfl rfl dX2_gather_63 ?_
      refine q_lv (lv' := [(0, .ref hX2), (1, .int (i32 l1)), (2, .int (i32 l2)), (3, .int (i32 (l3 + 1))), (4, .int (i32 l4))]) [1, 2, 3, 0, 4] rfl ?_
      exact s_X2_gather_66 g hR hX2 aX2_tried aX2_triedLeave aX2_numbers aX2_weights aX2_weightsAhead aX2_grains aX2_placeFrom aX2_first n_size n_parts n_wanted n_found n_barred n_limit r_n_barred r_n_limit Q hF (wp_X2_gather_5 Q n_barred n_limit n) (fun v0 v1 v2 v3 v4 v5 w0 w1 w2 w3 w4 w5 hh => ih v0 v1 v2 v3 v4 v5 w0 w1 w2 w3 w4 w5 hh) (ups n_tried l3 x48) (ups n_triedLeave l3 x59) l1 l2 (l3 + 1) l4 (rr32_u r_n_tried rx48) (rr64_u r_n_triedLeave rx59) r_l1 r_l2 c63 r_l4 h
    replace h := h.2 b33
    refine q_bipush g (6) (by decide) (by decide) dX2_gather_36 ?_
    exact q_iret g hF ⟨6, n_tried, n_triedLeave, rfl, rfl, (r32_lit _ (by decide)), r_n_tried, r_n_triedLeave, h⟩ dX2_gather_38
def wp_X2_gather (Q : Int → (Int → Int) → (Int → Int) → Prop) (n_tried : Int → Int) (n_triedLeave : Int → Int) (n_barred : Int) (n_limit : Int) (l1 : Int) (l2 : Int) : Prop := (∃ n0 : Nat, wp_X2_gather_5 Q n_barred n_limit n0 n_tried n_triedLeave l1 l2 0 1)
set_option maxHeartbeats 4000000 in
set_option maxRecDepth 100000 in
theorem c_X2_gather (l : Launch) (D : va_G) (cI cJ : ClassId) (zt : Nat) (hX2 : Nat) (aX2_tried : Nat) (aX2_triedLeave : Nat) (aX2_numbers : Nat) (aX2_weights : Nat) (aX2_weightsAhead : Nat) (aX2_grains : Nat) (aX2_placeFrom : Nat) (aX2_first : Nat) (n_barred : Int) (n_limit : Int) (n_size : Int) (n_parts : Int) (n_wanted : Int) (n_found : Int) (n_tried : Int → Int) (n_triedLeave : Int → Int) (l1 : Int) (l2 : Int) (Q : Int → (Int → Int) → (Int → Int) → Prop) (r_n_tried : rr32 n_tried) (r_n_triedLeave : rr64 n_triedLeave) (r_n_barred : r64 n_barred) (r_n_limit : r32 n_limit) (r_l1 : r32 l1) (r_l2 : r32 l2) (h : wp_X2_gather Q n_tried n_triedLeave n_barred n_limit l1 l2) : Ct l D cI cJ zt yX2_gather cX2_gather 5 (some .int) 3 0 0 [.ref hX2, .int (i32 l1), .int (i32 l2)] [(hX2, .inr (2, [.ref aX2_tried, .ref aX2_triedLeave, .ref aX2_numbers, .ref aX2_weights, .ref aX2_weightsAhead, .ref aX2_grains, .ref aX2_placeFrom, .ref aX2_first, .long (i64 n_barred), .int (i32 n_limit), .int (i32 n_size), .long (i64 n_parts), .long (i64 n_wanted), .int (i32 n_found)])), (aX2_tried, aI cI 5 n_tried), (aX2_triedLeave, aL cJ 5 n_triedLeave)] (po_X2_gather cI cJ hX2 aX2_tried aX2_triedLeave aX2_numbers aX2_weights aX2_weightsAhead aX2_grains aX2_placeFrom aX2_first n_barred n_limit n_size n_parts n_wanted n_found Q) := by
  refine ct_of (by decide +kernel) (Nat.le_of_ble_eq_true rfl) (fun X hl hDD hcI hcJ hzt hR hF hnm g => ?_)
  subst hl; subst hDD; subst hcI; subst hcJ; subst hzt
  show Wat X 0 0 0 [(0, .ref hX2), (1, .int (i32 l1)), (2, .int (i32 l2))] [] [(hX2, .inr (2, [.ref aX2_tried, .ref aX2_triedLeave, .ref aX2_numbers, .ref aX2_weights, .ref aX2_weightsAhead, .ref aX2_grains, .ref aX2_placeFrom, .ref aX2_first, .long (i64 n_barred), .int (i32 n_limit), .int (i32 n_size), .long (i64 n_parts), .long (i64 n_wanted), .int (i32 n_found)])), (aX2_tried, aI X.cI 5 n_tried), (aX2_triedLeave, aL X.cJ 5 n_triedLeave)]
  replace g : Gd X cX2_gather RX2 (some .int) 5 := g
  rw [wp_X2_gather] at h
  refine q_iconst g (0) dX2_gather_0 ?_
  refine q_istore_n (lv' := [(3, .int (i32 0)), (0, .ref hX2), (1, .int (i32 l1)), (2, .int (i32 l2))]) g 3 3 rfl (by decide) rfl dX2_gather_1 ?_
  refine q_iconst g (1) dX2_gather_2 ?_
  refine q_istore (lv' := [(4, .int (i32 1)), (3, .int (i32 0)), (0, .ref hX2), (1, .int (i32 l1)), (2, .int (i32 l2))]) g 4   (by decide) rfl dX2_gather_3 ?_
  refine q_lv (lv' := [(0, .ref hX2), (1, .int (i32 l1)), (2, .int (i32 l2)), (3, .int (i32 0)), (4, .int (i32 1))]) [2, 3, 4, 1, 0] rfl ?_
  obtain ⟨n0, h⟩ := h
  exact s_X2_gather_5 g hR hX2 aX2_tried aX2_triedLeave aX2_numbers aX2_weights aX2_weightsAhead aX2_grains aX2_placeFrom aX2_first n_size n_parts n_wanted n_found n_barred n_limit r_n_barred r_n_limit Q hF n0 n_tried n_triedLeave l1 l2 0 1 r_n_tried r_n_triedLeave r_l1 r_l2 (r32_lit _ (by decide)) (r32_lit _ (by decide)) h
theorem dX2_powerIn_0 : decode cX2_powerIn 0 = .ok (.iload_n 0, 1) := by decide +kernel
theorem dX2_powerIn_1 : decode cX2_powerIn 1 = .ok (.istore_n 2, 1) := by decide +kernel
theorem dX2_powerIn_2 : decode cX2_powerIn 2 = .ok (.iconst 1, 1) := by decide +kernel
theorem dX2_powerIn_3 : decode cX2_powerIn 3 = .ok (.istore_n 3, 1) := by decide +kernel
theorem dX2_powerIn_4 : decode cX2_powerIn 4 = .ok (.iconst 0, 1) := by decide +kernel
theorem dX2_powerIn_5 : decode cX2_powerIn 5 = .ok (.istore 4, 2) := by decide +kernel
theorem dX2_powerIn_7 : decode cX2_powerIn 7 = .ok (.iload 4, 2) := by decide +kernel
theorem dX2_powerIn_9 : decode cX2_powerIn 9 = .ok (.bipush 31, 2) := by decide +kernel
theorem dX2_powerIn_11 : decode cX2_powerIn 11 = .ok (.if_icmp .ge 32, 3) := by decide +kernel
theorem dX2_powerIn_14 : decode cX2_powerIn 14 = .ok (.iload_n 2, 1) := by decide +kernel
theorem dX2_powerIn_15 : decode cX2_powerIn 15 = .ok (.ifCond .le 28, 3) := by decide +kernel
theorem dX2_powerIn_18 : decode cX2_powerIn 18 = .ok (.iload_n 1, 1) := by decide +kernel
theorem dX2_powerIn_19 : decode cX2_powerIn 19 = .ok (.iconst 1, 1) := by decide +kernel
theorem dX2_powerIn_20 : decode cX2_powerIn 20 = .ok (.if_icmp .le 23, 3) := by decide +kernel
theorem dX2_powerIn_23 : decode cX2_powerIn 23 = .ok (.iload_n 2, 1) := by decide +kernel
theorem dX2_powerIn_24 : decode cX2_powerIn 24 = .ok (.iload_n 1, 1) := by decide +kernel
theorem dX2_powerIn_25 : decode cX2_powerIn 25 = .ok (.irem, 1) := by decide +kernel
theorem dX2_powerIn_26 : decode cX2_powerIn 26 = .ok (.ifCond .ne 17, 3) := by decide +kernel
theorem dX2_powerIn_29 : decode cX2_powerIn 29 = .ok (.iload_n 2, 1) := by decide +kernel
theorem dX2_powerIn_30 : decode cX2_powerIn 30 = .ok (.iload_n 1, 1) := by decide +kernel
theorem dX2_powerIn_31 : decode cX2_powerIn 31 = .ok (.idiv, 1) := by decide +kernel
theorem dX2_powerIn_32 : decode cX2_powerIn 32 = .ok (.istore_n 2, 1) := by decide +kernel
theorem dX2_powerIn_33 : decode cX2_powerIn 33 = .ok (.iload_n 3, 1) := by decide +kernel
theorem dX2_powerIn_34 : decode cX2_powerIn 34 = .ok (.iload_n 1, 1) := by decide +kernel
theorem dX2_powerIn_35 : decode cX2_powerIn 35 = .ok (.imul, 1) := by decide +kernel
theorem dX2_powerIn_36 : decode cX2_powerIn 36 = .ok (.istore_n 3, 1) := by decide +kernel
theorem dX2_powerIn_37 : decode cX2_powerIn 37 = .ok (.iinc 4 1, 3) := by decide +kernel
theorem dX2_powerIn_40 : decode cX2_powerIn 40 = .ok (.goto (-33), 3) := by decide +kernel
theorem dX2_powerIn_43 : decode cX2_powerIn 43 = .ok (.iload_n 3, 1) := by decide +kernel
theorem dX2_powerIn_44 : decode cX2_powerIn 44 = .ok (.ireturn, 1) := by decide +kernel
abbrev po_X2_powerIn (cI cJ : ClassId) (Q : Int → Prop) : Option Value → va_W → Prop := fun rv w1 => ∃ (r0 : Int), rv = some (.int (i32 r0)) ∧ w1 = [] ∧ r32 r0 ∧ Q r0
def wp_X2_powerIn_43 (Q : Int → Prop) (l3 : Int) : Prop := Q l3
set_option maxHeartbeats 4000000 in
set_option maxRecDepth 100000 in
theorem s_X2_powerIn_43 {X : Cx} (g : Gd X cX2_powerIn RX2 (some .int) 5) (hR : X.R = rmL 1 0 0) (Q : Int → Prop) (hF : FQ X 0 0 (po_X2_powerIn X.cI X.cJ Q)) : ∀ (l3 : Int), r32 l3 → wp_X2_powerIn_43 Q l3 → Wat X 0 0 43 [(3, .int (i32 l3))] [] [] := by
  intro l3 r_l3 h
  rw [wp_X2_powerIn_43] at h
  refine q_iload_n g 3 0 rfl dX2_powerIn_43 ?_
  exact q_iret g hF ⟨l3, rfl, rfl, r_l3, h⟩ dX2_powerIn_44
def wp_X2_powerIn_7 (Q : Int → Prop) : Nat → Int → Int → Int → Int → Prop
  | 0, _, _, _, _ => False
  | n + 1, l1, l2, l3, l4 => ((31 ≤ l4 → wp_X2_powerIn_43 Q l3) ∧
  (¬ (31 ≤ l4) → ((l2 ≤ 0 → wp_X2_powerIn_43 Q l3) ∧
  (¬ (l2 ≤ 0) → ((l1 ≤ 1 → wp_X2_powerIn_43 Q l3) ∧
  (¬ (l1 ≤ 1) → (0 < l1 ∧ ((¬ (l2.tmod l1) = 0 → wp_X2_powerIn_43 Q l3) ∧
  ((l2.tmod l1) = 0 → (0 < l1 ∧ ∀ x32 : Int, x32 = (l2.tdiv l1) → r32 (l3 * l1) ∧ ∀ x36 : Int, x36 = (l3 * l1) → r32 (l4 + 1) ∧ wp_X2_powerIn_7 Q n l1 x32 x36 (l4 + 1)))))))))))
set_option maxHeartbeats 4000000 in
set_option maxRecDepth 100000 in
theorem s_X2_powerIn_7 {X : Cx} (g : Gd X cX2_powerIn RX2 (some .int) 5) (hR : X.R = rmL 1 0 0) (Q : Int → Prop) (hF : FQ X 0 0 (po_X2_powerIn X.cI X.cJ Q)) : ∀ (n : Nat) (l1 : Int) (l2 : Int) (l3 : Int) (l4 : Int), r32 l1 → r32 l2 → r32 l3 → r32 l4 → wp_X2_powerIn_7 Q n l1 l2 l3 l4 → Wat X 0 0 7 [(1, .int (i32 l1)), (2, .int (i32 l2)), (3, .int (i32 l3)), (4, .int (i32 l4))] [] [] := by
  intro n
  induction n with
  | zero => intro l1 l2 l3 l4 r_l1 r_l2 r_l3 r_l4 h; exact False.elim h
  | succ n ih =>
    intro l1 l2 l3 l4 r_l1 r_l2 r_l3 r_l4 h
    rw [wp_X2_powerIn_7] at h
    refine q_iload g 4 3 rfl dX2_powerIn_7 ?_
    refine q_bipush g (31) (by decide) (by decide) dX2_powerIn_9 ?_
    refine q_icmp_ge g (32) 43 r_l4 (r32_lit _ (by decide)) (by decide) dX2_powerIn_11 (fun b11 => ?_) (fun b11 => ?_)
    · replace h := h.1 b11
      refine q_lv (lv' := [(3, .int (i32 l3))]) [2] rfl ?_
      exact s_X2_powerIn_43 g hR Q hF l3 r_l3 h
    replace h := h.2 b11
    refine q_iload_n g 2 1 rfl dX2_powerIn_14 ?_
    refine q_if_le g (28) 43 r_l2 (by decide) dX2_powerIn_15 (fun b15 => ?_) (fun b15 => ?_)
    · replace h := h.1 b15
      refine q_lv (lv' := [(3, .int (i32 l3))]) [2] rfl ?_
      exact s_X2_powerIn_43 g hR Q hF l3 r_l3 h
    replace h := h.2 b15
    refine q_iload_n g 1 0 rfl dX2_powerIn_18 ?_
    refine q_iconst g (1) dX2_powerIn_19 ?_
    refine q_icmp_le g (23) 43 r_l1 (r32_lit _ (by decide)) (by decide) dX2_powerIn_20 (fun b20 => ?_) (fun b20 => ?_)
    · replace h := h.1 b20
      refine q_lv (lv' := [(3, .int (i32 l3))]) [2] rfl ?_
      exact s_X2_powerIn_43 g hR Q hF l3 r_l3 h
    replace h := h.2 b20
    refine q_iload_n g 2 1 rfl dX2_powerIn_23 ?_
    refine q_iload_n g 1 0 rfl dX2_powerIn_24 ?_
    obtain ⟨c25, h⟩ := h
    refine q_irem g r_l2 r_l1 (ne_of_pos c25) dX2_powerIn_25 ?_
    refine q_if_ne g (17) 43 (r32_tmod r_l2 r_l1 (ne_of_pos c25)) (by decide) dX2_powerIn_26 (fun b26 => ?_) (fun b26 => ?_)
    · replace h := h.1 b26
      refine q_lv (lv' := [(3, .int (i32 l3))]) [2] rfl ?_
      exact s_X2_powerIn_43 g hR Q hF l3 r_l3 h
    replace h := h.2 b26
    refine q_iload_n g 2 1 rfl dX2_powerIn_29 ?_
    refine q_iload_n g 1 0 rfl dX2_powerIn_30 ?_
    obtain ⟨c31, h⟩ := h
    refine q_idiv g r_l2 r_l1 (ne_of_pos c31) dX2_powerIn_31 ?_
    refine q_topi (r32_tdiv r_l2 c31) (fun x32 ex32 rx32 => ?_)
    replace h := h x32 ex32
    refine q_istore_n (lv' := [(2, .int (i32 x32)), (1, .int (i32 l1)), (3, .int (i32 l3)), (4, .int (i32 l4))]) g 2 2 rfl (by decide) rfl dX2_powerIn_32 ?_
    refine q_iload_n g 3 2 rfl dX2_powerIn_33 ?_
    refine q_iload_n g 1 1 rfl dX2_powerIn_34 ?_
    obtain ⟨c35, h⟩ := h
    refine q_imul g dX2_powerIn_35 ?_
    refine q_topi c35 (fun x36 ex36 rx36 => ?_)
    replace h := h x36 ex36
    refine q_istore_n (lv' := [(3, .int (i32 x36)), (2, .int (i32 x32)), (1, .int (i32 l1)), (4, .int (i32 l4))]) g 3 3 rfl (by decide) rfl dX2_powerIn_36 ?_
    obtain ⟨c37, h⟩ := h
    refine q_iinc (lv' := [(4, .int (i32 (l4 + 1))), (3, .int (i32 x36)), (2, .int (i32 x32)), (1, .int (i32 l1))]) g 4 3 1 (by decide) rfl rfl dX2_powerIn_37 ?_
    refine q_goto g (-33) 7 (by decide) dX2_powerIn_40 ?_
    refine q_lv (lv' := [(1, .int (i32 l1)), (2, .int (i32 x32)), (3, .int (i32 x36)), (4, .int (i32 (l4 + 1)))]) [3, 2, 1, 0] rfl ?_
    exact ih l1 x32 x36 (l4 + 1) r_l1 rx32 rx36 c37 h
def wp_X2_powerIn (Q : Int → Prop) (l0 : Int) (l1 : Int) : Prop := (∃ n0 : Nat, wp_X2_powerIn_7 Q n0 l1 l0 1 0)
set_option maxHeartbeats 4000000 in
set_option maxRecDepth 100000 in
theorem c_X2_powerIn (l : Launch) (D : va_G) (cI cJ : ClassId) (zt : Nat) (l0 : Int) (l1 : Int) (Q : Int → Prop) (r_l0 : r32 l0) (r_l1 : r32 l1) (h : wp_X2_powerIn Q l0 l1) : Ct l D cI cJ zt yX2_powerIn cX2_powerIn 5 (some .int) 1 0 0 [.int (i32 l0), .int (i32 l1)] [] (po_X2_powerIn cI cJ Q) := by
  refine ct_of (by decide +kernel) (Nat.le_of_ble_eq_true rfl) (fun X hl hDD hcI hcJ hzt hR hF hnm g => ?_)
  subst hl; subst hDD; subst hcI; subst hcJ; subst hzt
  show Wat X 0 0 0 [(0, .int (i32 l0)), (1, .int (i32 l1))] [] []
  replace g : Gd X cX2_powerIn RX2 (some .int) 5 := g
  rw [wp_X2_powerIn] at h
  refine q_iload_n g 0 0 rfl dX2_powerIn_0 ?_
  refine q_istore_n (lv' := [(2, .int (i32 l0)), (0, .int (i32 l0)), (1, .int (i32 l1))]) g 2 2 rfl (by decide) rfl dX2_powerIn_1 ?_
  refine q_iconst g (1) dX2_powerIn_2 ?_
  refine q_istore_n (lv' := [(3, .int (i32 1)), (2, .int (i32 l0)), (0, .int (i32 l0)), (1, .int (i32 l1))]) g 3 3 rfl (by decide) rfl dX2_powerIn_3 ?_
  refine q_iconst g (0) dX2_powerIn_4 ?_
  refine q_istore (lv' := [(4, .int (i32 0)), (3, .int (i32 1)), (2, .int (i32 l0)), (0, .int (i32 l0)), (1, .int (i32 l1))]) g 4   (by decide) rfl dX2_powerIn_5 ?_
  refine q_lv (lv' := [(1, .int (i32 l1)), (2, .int (i32 l0)), (3, .int (i32 1)), (4, .int (i32 0))]) [4, 2, 1, 0] rfl ?_
  obtain ⟨n0, h⟩ := h
  exact s_X2_powerIn_7 g hR Q hF n0 l1 l0 1 0 r_l1 r_l0 (r32_lit _ (by decide)) (r32_lit _ (by decide)) h
theorem dX2_usefulOf_0 : decode cX2_usefulOf 0 = .ok (.iconst 0, 1) := by decide +kernel
theorem dX2_usefulOf_1 : decode cX2_usefulOf 1 = .ok (.istore 5, 2) := by decide +kernel
theorem dX2_usefulOf_3 : decode cX2_usefulOf 3 = .ok (.iconst 1, 1) := by decide +kernel
theorem dX2_usefulOf_4 : decode cX2_usefulOf 4 = .ok (.istore 6, 2) := by decide +kernel
theorem dX2_usefulOf_6 : decode cX2_usefulOf 6 = .ok (.iload_n 2, 1) := by decide +kernel
theorem dX2_usefulOf_7 : decode cX2_usefulOf 7 = .ok (.ifCond .le 80, 3) := by decide +kernel
theorem dX2_usefulOf_10 : decode cX2_usefulOf 10 = .ok (.iload 6, 2) := by decide +kernel
theorem dX2_usefulOf_12 : decode cX2_usefulOf 12 = .ok (.iconst 1, 1) := by decide +kernel
theorem dX2_usefulOf_13 : decode cX2_usefulOf 13 = .ok (.iload_n 1, 1) := by decide +kernel
theorem dX2_usefulOf_14 : decode cX2_usefulOf 14 = .ok (.ishl, 1) := by decide +kernel
theorem dX2_usefulOf_15 : decode cX2_usefulOf 15 = .ok (.if_icmp .ge 72, 3) := by decide +kernel
theorem dX2_usefulOf_18 : decode cX2_usefulOf 18 = .ok (.lconst 0, 1) := by decide +kernel
theorem dX2_usefulOf_19 : decode cX2_usefulOf 19 = .ok (.lstore 7, 2) := by decide +kernel
theorem dX2_usefulOf_21 : decode cX2_usefulOf 21 = .ok (.iconst 0, 1) := by decide +kernel
theorem dX2_usefulOf_22 : decode cX2_usefulOf 22 = .ok (.istore 9, 2) := by decide +kernel
theorem dX2_usefulOf_24 : decode cX2_usefulOf 24 = .ok (.iload 9, 2) := by decide +kernel
theorem dX2_usefulOf_26 : decode cX2_usefulOf 26 = .ok (.iload_n 1, 1) := by decide +kernel
theorem dX2_usefulOf_27 : decode cX2_usefulOf 27 = .ok (.if_icmp .ge 37, 3) := by decide +kernel
theorem dX2_usefulOf_30 : decode cX2_usefulOf 30 = .ok (.iload 9, 2) := by decide +kernel
theorem dX2_usefulOf_32 : decode cX2_usefulOf 32 = .ok (.iconst 5, 1) := by decide +kernel
theorem dX2_usefulOf_33 : decode cX2_usefulOf 33 = .ok (.if_icmp .ge 31, 3) := by decide +kernel
theorem dX2_usefulOf_36 : decode cX2_usefulOf 36 = .ok (.iload 6, 2) := by decide +kernel
theorem dX2_usefulOf_38 : decode cX2_usefulOf 38 = .ok (.iload 9, 2) := by decide +kernel
theorem dX2_usefulOf_40 : decode cX2_usefulOf 40 = .ok (.ishr, 1) := by decide +kernel
theorem dX2_usefulOf_41 : decode cX2_usefulOf 41 = .ok (.iconst 1, 1) := by decide +kernel
theorem dX2_usefulOf_42 : decode cX2_usefulOf 42 = .ok (.iand, 1) := by decide +kernel
theorem dX2_usefulOf_43 : decode cX2_usefulOf 43 = .ok (.ifCond .eq 15, 3) := by decide +kernel
theorem dX2_usefulOf_46 : decode cX2_usefulOf 46 = .ok (.lload 7, 2) := by decide +kernel
theorem dX2_usefulOf_48 : decode cX2_usefulOf 48 = .ok (.aload_n 0, 1) := by decide +kernel
theorem dX2_usefulOf_49 : decode cX2_usefulOf 49 = .ok (.getfield 15, 3) := by decide +kernel
theorem dX2_usefulOf_52 : decode cX2_usefulOf 52 = .ok (.iload 9, 2) := by decide +kernel
theorem dX2_usefulOf_54 : decode cX2_usefulOf 54 = .ok (.laload, 1) := by decide +kernel
theorem dX2_usefulOf_55 : decode cX2_usefulOf 55 = .ok (.ladd, 1) := by decide +kernel
theorem dX2_usefulOf_56 : decode cX2_usefulOf 56 = .ok (.lstore 7, 2) := by decide +kernel
theorem dX2_usefulOf_58 : decode cX2_usefulOf 58 = .ok (.iinc 9 1, 3) := by decide +kernel
theorem dX2_usefulOf_61 : decode cX2_usefulOf 61 = .ok (.goto (-37), 3) := by decide +kernel
theorem dX2_usefulOf_64 : decode cX2_usefulOf 64 = .ok (.lload 7, 2) := by decide +kernel
theorem dX2_usefulOf_66 : decode cX2_usefulOf 66 = .ok (.iload_n 2, 1) := by decide +kernel
theorem dX2_usefulOf_67 : decode cX2_usefulOf 67 = .ok (.i2l, 1) := by decide +kernel
theorem dX2_usefulOf_68 : decode cX2_usefulOf 68 = .ok (.lrem, 1) := by decide +kernel
theorem dX2_usefulOf_69 : decode cX2_usefulOf 69 = .ok (.lload_n 3, 1) := by decide +kernel
theorem dX2_usefulOf_70 : decode cX2_usefulOf 70 = .ok (.lcmp, 1) := by decide +kernel
theorem dX2_usefulOf_71 : decode cX2_usefulOf 71 = .ok (.ifCond .ne 10, 3) := by decide +kernel
theorem dX2_usefulOf_74 : decode cX2_usefulOf 74 = .ok (.iload 5, 2) := by decide +kernel
theorem dX2_usefulOf_76 : decode cX2_usefulOf 76 = .ok (.iload 6, 2) := by decide +kernel
theorem dX2_usefulOf_78 : decode cX2_usefulOf 78 = .ok (.ior, 1) := by decide +kernel
theorem dX2_usefulOf_79 : decode cX2_usefulOf 79 = .ok (.istore 5, 2) := by decide +kernel
theorem dX2_usefulOf_81 : decode cX2_usefulOf 81 = .ok (.iinc 6 1, 3) := by decide +kernel
theorem dX2_usefulOf_84 : decode cX2_usefulOf 84 = .ok (.goto (-78), 3) := by decide +kernel
theorem dX2_usefulOf_87 : decode cX2_usefulOf 87 = .ok (.iload 5, 2) := by decide +kernel
theorem dX2_usefulOf_89 : decode cX2_usefulOf 89 = .ok (.ireturn, 1) := by decide +kernel
abbrev po_X2_usefulOf (cI cJ : ClassId) (hX2 : Nat) (aX2_tried : Nat) (aX2_triedLeave : Nat) (aX2_numbers : Nat) (aX2_weights : Nat) (aX2_weightsAhead : Nat) (aX2_grains : Nat) (aX2_placeFrom : Nat) (aX2_first : Nat) (n_barred : Int) (n_limit : Int) (n_size : Int) (n_parts : Int) (n_wanted : Int) (n_found : Int) (n_triedLeave : Int → Int) (Q : Int → Prop) : Option Value → va_W → Prop := fun rv w1 => ∃ (r0 : Int), rv = some (.int (i32 r0)) ∧ w1 = [(hX2, .inr (2, [.ref aX2_tried, .ref aX2_triedLeave, .ref aX2_numbers, .ref aX2_weights, .ref aX2_weightsAhead, .ref aX2_grains, .ref aX2_placeFrom, .ref aX2_first, .long (i64 n_barred), .int (i32 n_limit), .int (i32 n_size), .long (i64 n_parts), .long (i64 n_wanted), .int (i32 n_found)])), (aX2_triedLeave, aL cJ 5 n_triedLeave)] ∧ r32 r0 ∧ Q r0
def wp_X2_usefulOf_58 (Q : Int → Prop) (n_triedLeave : Int → Int) (K_6 : Int → Int → Int → Int → Int → Prop) (K_24 : Int → Int → Int → Int → Int → Int → Int → Prop) (l1 : Int) (l2 : Int) (l3 : Int) (l5 : Int) (l6 : Int) (l7 : Int) (l9 : Int) : Prop := (r32 (l9 + 1) ∧ K_24 l1 l2 l3 l5 l6 l7 (l9 + 1))
set_option maxHeartbeats 4000000 in
set_option maxRecDepth 100000 in
theorem s_X2_usefulOf_58 {X : Cx} (g : Gd X cX2_usefulOf RX2 (some .int) 10) (hR : X.R = rmL 1 0 0) (hX2 : Nat) (aX2_tried : Nat) (aX2_triedLeave : Nat) (aX2_numbers : Nat) (aX2_weights : Nat) (aX2_weightsAhead : Nat) (aX2_grains : Nat) (aX2_placeFrom : Nat) (aX2_first : Nat) (n_barred : Int) (n_limit : Int) (n_size : Int) (n_parts : Int) (n_wanted : Int) (n_found : Int) (n_triedLeave : Int → Int) (r_n_triedLeave : rr64 n_triedLeave) (Q : Int → Prop) (hF : FQ X 0 0 (po_X2_usefulOf X.cI X.cJ hX2 aX2_tried aX2_triedLeave aX2_numbers aX2_weights aX2_weightsAhead aX2_grains aX2_placeFrom aX2_first n_barred n_limit n_size n_parts n_wanted n_found n_triedLeave Q)) (K_6 : Int → Int → Int → Int → Int → Prop) (hK_6 : ∀ (l1 : Int) (l2 : Int) (l3 : Int) (l5 : Int) (l6 : Int), r32 l1 → r32 l2 → r64 l3 → r32 l5 → r32 l6 → K_6 l1 l2 l3 l5 l6 → Wat X 0 0 6 [(0, .ref hX2), (1, .int (i32 l1)), (2, .int (i32 l2)), (3, .long (i64 l3)), (5, .int (i32 l5)), (6, .int (i32 l6))] [] [(hX2, .inr (2, [.ref aX2_tried, .ref aX2_triedLeave, .ref aX2_numbers, .ref aX2_weights, .ref aX2_weightsAhead, .ref aX2_grains, .ref aX2_placeFrom, .ref aX2_first, .long (i64 n_barred), .int (i32 n_limit), .int (i32 n_size), .long (i64 n_parts), .long (i64 n_wanted), .int (i32 n_found)])), (aX2_triedLeave, aL X.cJ 5 n_triedLeave)]) (K_24 : Int → Int → Int → Int → Int → Int → Int → Prop) (hK_24 : ∀ (l1 : Int) (l2 : Int) (l3 : Int) (l5 : Int) (l6 : Int) (l7 : Int) (l9 : Int), r32 l1 → r32 l2 → r64 l3 → r32 l5 → r32 l6 → r64 l7 → r32 l9 → K_24 l1 l2 l3 l5 l6 l7 l9 → Wat X 0 0 24 [(0, .ref hX2), (1, .int (i32 l1)), (2, .int (i32 l2)), (3, .long (i64 l3)), (5, .int (i32 l5)), (6, .int (i32 l6)), (7, .long (i64 l7)), (9, .int (i32 l9))] [] [(hX2, .inr (2, [.ref aX2_tried, .ref aX2_triedLeave, .ref aX2_numbers, .ref aX2_weights, .ref aX2_weightsAhead, .ref aX2_grains, .ref aX2_placeFrom, .ref aX2_first, .long (i64 n_barred), .int (i32 n_limit), .int (i32 n_size), .long (i64 n_parts), .long (i64 n_wanted), .int (i32 n_found)])), (aX2_triedLeave, aL X.cJ 5 n_triedLeave)]) : ∀ (l1 : Int) (l2 : Int) (l3 : Int) (l5 : Int) (l6 : Int) (l7 : Int) (l9 : Int), r32 l1 → r32 l2 → r64 l3 → r32 l5 → r32 l6 → r64 l7 → r32 l9 → wp_X2_usefulOf_58 Q n_triedLeave K_6 K_24 l1 l2 l3 l5 l6 l7 l9 → Wat X 0 0 58 [(0, .ref hX2), (1, .int (i32 l1)), (2, .int (i32 l2)), (3, .long (i64 l3)), (5, .int (i32 l5)), (6, .int (i32 l6)), (7, .long (i64 l7)), (9, .int (i32 l9))] [] [(hX2, .inr (2, [.ref aX2_tried, .ref aX2_triedLeave, .ref aX2_numbers, .ref aX2_weights, .ref aX2_weightsAhead, .ref aX2_grains, .ref aX2_placeFrom, .ref aX2_first, .long (i64 n_barred), .int (i32 n_limit), .int (i32 n_size), .long (i64 n_parts), .long (i64 n_wanted), .int (i32 n_found)])), (aX2_triedLeave, aL X.cJ 5 n_triedLeave)] := by
  intro l1 l2 l3 l5 l6 l7 l9 r_l1 r_l2 r_l3 r_l5 r_l6 r_l7 r_l9 h
  rw [wp_X2_usefulOf_58] at h
  obtain ⟨c58, h⟩ := h
  refine q_iinc (lv' := [(9, .int (i32 (l9 + 1))), (0, .ref hX2), (1, .int (i32 l1)), (2, .int (i32 l2)), (3, .long (i64 l3)), (5, .int (i32 l5)), (6, .int (i32 l6)), (7, .long (i64 l7))]) g 9 7 1 (by decide) rfl rfl dX2_usefulOf_58 ?_
  refine q_goto g (-37) 24 (by decide) dX2_usefulOf_61 ?_
  refine q_lv (lv' := [(0, .ref hX2), (1, .int (i32 l1)), (2, .int (i32 l2)), (3, .long (i64 l3)), (5, .int (i32 l5)), (6, .int (i32 l6)), (7, .long (i64 l7)), (9, .int (i32 (l9 + 1)))]) [1, 2, 3, 4, 5, 6, 7, 0] rfl ?_
  exact hK_24 l1 l2 l3 l5 l6 l7 (l9 + 1) r_l1 r_l2 r_l3 r_l5 r_l6 r_l7 c58 h
def wp_X2_usefulOf_81 (Q : Int → Prop) (n_triedLeave : Int → Int) (K_6 : Int → Int → Int → Int → Int → Prop) (l1 : Int) (l2 : Int) (l3 : Int) (l5 : Int) (l6 : Int) : Prop := (r32 (l6 + 1) ∧ K_6 l1 l2 l3 l5 (l6 + 1))
set_option maxHeartbeats 4000000 in
set_option maxRecDepth 100000 in
theorem s_X2_usefulOf_81 {X : Cx} (g : Gd X cX2_usefulOf RX2 (some .int) 10) (hR : X.R = rmL 1 0 0) (hX2 : Nat) (aX2_tried : Nat) (aX2_triedLeave : Nat) (aX2_numbers : Nat) (aX2_weights : Nat) (aX2_weightsAhead : Nat) (aX2_grains : Nat) (aX2_placeFrom : Nat) (aX2_first : Nat) (n_barred : Int) (n_limit : Int) (n_size : Int) (n_parts : Int) (n_wanted : Int) (n_found : Int) (n_triedLeave : Int → Int) (r_n_triedLeave : rr64 n_triedLeave) (Q : Int → Prop) (hF : FQ X 0 0 (po_X2_usefulOf X.cI X.cJ hX2 aX2_tried aX2_triedLeave aX2_numbers aX2_weights aX2_weightsAhead aX2_grains aX2_placeFrom aX2_first n_barred n_limit n_size n_parts n_wanted n_found n_triedLeave Q)) (K_6 : Int → Int → Int → Int → Int → Prop) (hK_6 : ∀ (l1 : Int) (l2 : Int) (l3 : Int) (l5 : Int) (l6 : Int), r32 l1 → r32 l2 → r64 l3 → r32 l5 → r32 l6 → K_6 l1 l2 l3 l5 l6 → Wat X 0 0 6 [(0, .ref hX2), (1, .int (i32 l1)), (2, .int (i32 l2)), (3, .long (i64 l3)), (5, .int (i32 l5)), (6, .int (i32 l6))] [] [(hX2, .inr (2, [.ref aX2_tried, .ref aX2_triedLeave, .ref aX2_numbers, .ref aX2_weights, .ref aX2_weightsAhead, .ref aX2_grains, .ref aX2_placeFrom, .ref aX2_first, .long (i64 n_barred), .int (i32 n_limit), .int (i32 n_size), .long (i64 n_parts), .long (i64 n_wanted), .int (i32 n_found)])), (aX2_triedLeave, aL X.cJ 5 n_triedLeave)]) : ∀ (l1 : Int) (l2 : Int) (l3 : Int) (l5 : Int) (l6 : Int), r32 l1 → r32 l2 → r64 l3 → r32 l5 → r32 l6 → wp_X2_usefulOf_81 Q n_triedLeave K_6 l1 l2 l3 l5 l6 → Wat X 0 0 81 [(0, .ref hX2), (1, .int (i32 l1)), (2, .int (i32 l2)), (3, .long (i64 l3)), (5, .int (i32 l5)), (6, .int (i32 l6))] [] [(hX2, .inr (2, [.ref aX2_tried, .ref aX2_triedLeave, .ref aX2_numbers, .ref aX2_weights, .ref aX2_weightsAhead, .ref aX2_grains, .ref aX2_placeFrom, .ref aX2_first, .long (i64 n_barred), .int (i32 n_limit), .int (i32 n_size), .long (i64 n_parts), .long (i64 n_wanted), .int (i32 n_found)])), (aX2_triedLeave, aL X.cJ 5 n_triedLeave)] := by
  intro l1 l2 l3 l5 l6 r_l1 r_l2 r_l3 r_l5 r_l6 h
  rw [wp_X2_usefulOf_81] at h
  obtain ⟨c81, h⟩ := h
  refine q_iinc (lv' := [(6, .int (i32 (l6 + 1))), (0, .ref hX2), (1, .int (i32 l1)), (2, .int (i32 l2)), (3, .long (i64 l3)), (5, .int (i32 l5))]) g 6 5 1 (by decide) rfl rfl dX2_usefulOf_81 ?_
  refine q_goto g (-78) 6 (by decide) dX2_usefulOf_84 ?_
  refine q_lv (lv' := [(0, .ref hX2), (1, .int (i32 l1)), (2, .int (i32 l2)), (3, .long (i64 l3)), (5, .int (i32 l5)), (6, .int (i32 (l6 + 1)))]) [1, 2, 3, 4, 5, 0] rfl ?_
  exact hK_6 l1 l2 l3 l5 (l6 + 1) r_l1 r_l2 r_l3 r_l5 c81 h
def wp_X2_usefulOf_64 (Q : Int → Prop) (n_triedLeave : Int → Int) (K_6 : Int → Int → Int → Int → Int → Prop) (l1 : Int) (l2 : Int) (l3 : Int) (l5 : Int) (l6 : Int) (l7 : Int) : Prop := (0 < l2 ∧ ((¬ (l7.tmod l2) = l3 → wp_X2_usefulOf_81 Q n_triedLeave K_6 l1 l2 l3 l5 l6) ∧
  ((l7.tmod l2) = l3 → (∀ x79 : Int, x79 = (lor32 l5 l6) → wp_X2_usefulOf_81 Q n_triedLeave K_6 l1 l2 l3 x79 l6))))
set_option maxHeartbeats 4000000 in
set_option maxRecDepth 100000 in
theorem s_X2_usefulOf_64 {X : Cx} (g : Gd X cX2_usefulOf RX2 (some .int) 10) (hR : X.R = rmL 1 0 0) (hX2 : Nat) (aX2_tried : Nat) (aX2_triedLeave : Nat) (aX2_numbers : Nat) (aX2_weights : Nat) (aX2_weightsAhead : Nat) (aX2_grains : Nat) (aX2_placeFrom : Nat) (aX2_first : Nat) (n_barred : Int) (n_limit : Int) (n_size : Int) (n_parts : Int) (n_wanted : Int) (n_found : Int) (n_triedLeave : Int → Int) (r_n_triedLeave : rr64 n_triedLeave) (Q : Int → Prop) (hF : FQ X 0 0 (po_X2_usefulOf X.cI X.cJ hX2 aX2_tried aX2_triedLeave aX2_numbers aX2_weights aX2_weightsAhead aX2_grains aX2_placeFrom aX2_first n_barred n_limit n_size n_parts n_wanted n_found n_triedLeave Q)) (K_6 : Int → Int → Int → Int → Int → Prop) (hK_6 : ∀ (l1 : Int) (l2 : Int) (l3 : Int) (l5 : Int) (l6 : Int), r32 l1 → r32 l2 → r64 l3 → r32 l5 → r32 l6 → K_6 l1 l2 l3 l5 l6 → Wat X 0 0 6 [(0, .ref hX2), (1, .int (i32 l1)), (2, .int (i32 l2)), (3, .long (i64 l3)), (5, .int (i32 l5)), (6, .int (i32 l6))] [] [(hX2, .inr (2, [.ref aX2_tried, .ref aX2_triedLeave, .ref aX2_numbers, .ref aX2_weights, .ref aX2_weightsAhead, .ref aX2_grains, .ref aX2_placeFrom, .ref aX2_first, .long (i64 n_barred), .int (i32 n_limit), .int (i32 n_size), .long (i64 n_parts), .long (i64 n_wanted), .int (i32 n_found)])), (aX2_triedLeave, aL X.cJ 5 n_triedLeave)]) : ∀ (l1 : Int) (l2 : Int) (l3 : Int) (l5 : Int) (l6 : Int) (l7 : Int), r32 l1 → r32 l2 → r64 l3 → r32 l5 → r32 l6 → r64 l7 → wp_X2_usefulOf_64 Q n_triedLeave K_6 l1 l2 l3 l5 l6 l7 → Wat X 0 0 64 [(0, .ref hX2), (1, .int (i32 l1)), (2, .int (i32 l2)), (3, .long (i64 l3)), (5, .int (i32 l5)), (6, .int (i32 l6)), (7, .long (i64 l7))] [] [(hX2, .inr (2, [.ref aX2_tried, .ref aX2_triedLeave, .ref aX2_numbers, .ref aX2_weights, .ref aX2_weightsAhead, .ref aX2_grains, .ref aX2_placeFrom, .ref aX2_first, .long (i64 n_barred), .int (i32 n_limit), .int (i32 n_size), .long (i64 n_parts), .long (i64 n_wanted), .int (i32 n_found)])), (aX2_triedLeave, aL X.cJ 5 n_triedLeave)] := by
  intro l1 l2 l3 l5 l6 l7 r_l1 r_l2 r_l3 r_l5 r_l6 r_l7 h
  rw [wp_X2_usefulOf_64] at h
  refine q_lload g 7 6 rfl dX2_usefulOf_64 ?_
  refine q_iload_n g 2 2 rfl dX2_usefulOf_66 ?_
  refine q_i2l g r_l2 dX2_usefulOf_67 ?_
  obtain ⟨c68, h⟩ := h
  refine q_lrem g r_l7 (r32_64 r_l2) (ne_of_pos c68) dX2_usefulOf_68 ?_
  refine q_lload_n g 3 3 rfl dX2_usefulOf_69 ?_
  refine q_lcmp_ne g (10) 81 (r64_tmod r_l7 (r32_64 r_l2) (ne_of_pos c68)) r_l3 (by decide) dX2_usefulOf_70 dX2_usefulOf_71 (fun b70 => ?_) (fun b70 => ?_)
  · replace h := h.1 b70
    refine q_lv (lv' := [(0, .ref hX2), (1, .int (i32 l1)), (2, .int (i32 l2)), (3, .long (i64 l3)), (5, .int (i32 l5)), (6, .int (i32 l6))]) [0, 1, 2, 3, 4, 5] rfl ?_
    exact s_X2_usefulOf_81 g hR hX2 aX2_tried aX2_triedLeave aX2_numbers aX2_weights aX2_weightsAhead aX2_grains aX2_placeFrom aX2_first n_barred n_limit n_size n_parts n_wanted n_found n_triedLeave r_n_triedLeave Q hF K_6 hK_6 l1 l2 l3 l5 l6 r_l1 r_l2 r_l3 r_l5 r_l6 h
  replace h := h.2 b70
  refine q_iload g 5 4 rfl dX2_usefulOf_74 ?_
  refine q_iload g 6 5 rfl dX2_usefulOf_76 ?_
  refine q_ior g dX2_usefulOf_78 ?_
  refine q_topi (r_lor32 _ _) (fun x79 ex79 rx79 => ?_)
  replace h := h x79 ex79
  refine q_istore (lv' := [(5, .int (i32 x79)), (0, .ref hX2), (1, .int (i32 l1)), (2, .int (i32 l2)), (3, .long (i64 l3)), (6, .int (i32 l6)), (7, .long (i64 l7))]) g 5   (by decide) rfl dX2_usefulOf_79 ?_
  refine q_lv (lv' := [(0, .ref hX2), (1, .int (i32 l1)), (2, .int (i32 l2)), (3, .long (i64 l3)), (5, .int (i32 x79)), (6, .int (i32 l6))]) [1, 2, 3, 4, 0, 5] rfl ?_
  exact s_X2_usefulOf_81 g hR hX2 aX2_tried aX2_triedLeave aX2_numbers aX2_weights aX2_weightsAhead aX2_grains aX2_placeFrom aX2_first n_barred n_limit n_size n_parts n_wanted n_found n_triedLeave r_n_triedLeave Q hF K_6 hK_6 l1 l2 l3 x79 l6 r_l1 r_l2 r_l3 rx79 r_l6 h
def wp_X2_usefulOf_24 (Q : Int → Prop) (n_triedLeave : Int → Int) (K_6 : Int → Int → Int → Int → Int → Prop) : Nat → Int → Int → Int → Int → Int → Int → Int → Prop
  | 0, _, _, _, _, _, _, _ => False
  | n + 1, l1, l2, l3, l5, l6, l7, l9 => ((l1 ≤ l9 → wp_X2_usefulOf_64 Q n_triedLeave K_6 l1 l2 l3 l5 l6 l7) ∧
  (¬ (l1 ≤ l9) → ((5 ≤ l9 → wp_X2_usefulOf_64 Q n_triedLeave K_6 l1 l2 l3 l5 l6 l7) ∧
  (¬ (5 ≤ l9) → (((land32 (shr32 l6 l9) 1) = 0 → wp_X2_usefulOf_58 Q n_triedLeave K_6 (wp_X2_usefulOf_24 Q n_triedLeave K_6 n) l1 l2 l3 l5 l6 l7 l9) ∧
  (¬ ((land32 (shr32 l6 l9) 1) = 0) → (0 ≤ l9 ∧ l9 < 5 ∧ r64 (l7 + (n_triedLeave l9)) ∧ ∀ x56 : Int, x56 = (l7 + (n_triedLeave l9)) → wp_X2_usefulOf_58 Q n_triedLeave K_6 (wp_X2_usefulOf_24 Q n_triedLeave K_6 n) l1 l2 l3 l5 l6 x56 l9)))))))
set_option maxHeartbeats 4000000 in
set_option maxRecDepth 100000 in
theorem s_X2_usefulOf_24 {X : Cx} (g : Gd X cX2_usefulOf RX2 (some .int) 10) (hR : X.R = rmL 1 0 0) (hX2 : Nat) (aX2_tried : Nat) (aX2_triedLeave : Nat) (aX2_numbers : Nat) (aX2_weights : Nat) (aX2_weightsAhead : Nat) (aX2_grains : Nat) (aX2_placeFrom : Nat) (aX2_first : Nat) (n_barred : Int) (n_limit : Int) (n_size : Int) (n_parts : Int) (n_wanted : Int) (n_found : Int) (n_triedLeave : Int → Int) (r_n_triedLeave : rr64 n_triedLeave) (Q : Int → Prop) (hF : FQ X 0 0 (po_X2_usefulOf X.cI X.cJ hX2 aX2_tried aX2_triedLeave aX2_numbers aX2_weights aX2_weightsAhead aX2_grains aX2_placeFrom aX2_first n_barred n_limit n_size n_parts n_wanted n_found n_triedLeave Q)) (K_6 : Int → Int → Int → Int → Int → Prop) (hK_6 : ∀ (l1 : Int) (l2 : Int) (l3 : Int) (l5 : Int) (l6 : Int), r32 l1 → r32 l2 → r64 l3 → r32 l5 → r32 l6 → K_6 l1 l2 l3 l5 l6 → Wat X 0 0 6 [(0, .ref hX2), (1, .int (i32 l1)), (2, .int (i32 l2)), (3, .long (i64 l3)), (5, .int (i32 l5)), (6, .int (i32 l6))] [] [(hX2, .inr (2, [.ref aX2_tried, .ref aX2_triedLeave, .ref aX2_numbers, .ref aX2_weights, .ref aX2_weightsAhead, .ref aX2_grains, .ref aX2_placeFrom, .ref aX2_first, .long (i64 n_barred), .int (i32 n_limit), .int (i32 n_size), .long (i64 n_parts), .long (i64 n_wanted), .int (i32 n_found)])), (aX2_triedLeave, aL X.cJ 5 n_triedLeave)]) : ∀ (n : Nat) (l1 : Int) (l2 : Int) (l3 : Int) (l5 : Int) (l6 : Int) (l7 : Int) (l9 : Int), r32 l1 → r32 l2 → r64 l3 → r32 l5 → r32 l6 → r64 l7 → r32 l9 → wp_X2_usefulOf_24 Q n_triedLeave K_6 n l1 l2 l3 l5 l6 l7 l9 → Wat X 0 0 24 [(0, .ref hX2), (1, .int (i32 l1)), (2, .int (i32 l2)), (3, .long (i64 l3)), (5, .int (i32 l5)), (6, .int (i32 l6)), (7, .long (i64 l7)), (9, .int (i32 l9))] [] [(hX2, .inr (2, [.ref aX2_tried, .ref aX2_triedLeave, .ref aX2_numbers, .ref aX2_weights, .ref aX2_weightsAhead, .ref aX2_grains, .ref aX2_placeFrom, .ref aX2_first, .long (i64 n_barred), .int (i32 n_limit), .int (i32 n_size), .long (i64 n_parts), .long (i64 n_wanted), .int (i32 n_found)])), (aX2_triedLeave, aL X.cJ 5 n_triedLeave)] := by
  intro n
  induction n with
  | zero => intro l1 l2 l3 l5 l6 l7 l9 r_l1 r_l2 r_l3 r_l5 r_l6 r_l7 r_l9 h; exact False.elim h
  | succ n ih =>
    intro l1 l2 l3 l5 l6 l7 l9 r_l1 r_l2 r_l3 r_l5 r_l6 r_l7 r_l9 h
    rw [wp_X2_usefulOf_24] at h
    refine q_iload g 9 7 rfl dX2_usefulOf_24 ?_
    refine q_iload_n g 1 1 rfl dX2_usefulOf_26 ?_
    refine q_icmp_ge g (37) 64 r_l9 r_l1 (by decide) dX2_usefulOf_27 (fun b27 => ?_) (fun b27 => ?_)
    · replace h := h.1 b27
      refine q_lv (lv' := [(0, .ref hX2), (1, .int (i32 l1)), (2, .int (i32 l2)), (3, .long (i64 l3)), (5, .int (i32 l5)), (6, .int (i32 l6)), (7, .long (i64 l7))]) [0, 1, 2, 3, 4, 5, 6] rfl ?_
      exact s_X2_usefulOf_64 g hR hX2 aX2_tried aX2_triedLeave aX2_numbers aX2_weights aX2_weightsAhead aX2_grains aX2_placeFrom aX2_first n_barred n_limit n_size n_parts n_wanted n_found n_triedLeave r_n_triedLeave Q hF K_6 hK_6 l1 l2 l3 l5 l6 l7 r_l1 r_l2 r_l3 r_l5 r_l6 r_l7 h
    replace h := h.2 b27
    refine q_iload g 9 7 rfl dX2_usefulOf_30 ?_
    refine q_iconst g (5) dX2_usefulOf_32 ?_
    refine q_icmp_ge g (31) 64 r_l9 (r32_lit _ (by decide)) (by decide) dX2_usefulOf_33 (fun b33 => ?_) (fun b33 => ?_)
    · replace h := h.1 b33
      refine q_lv (lv' := [(0, .ref hX2), (1, .int (i32 l1)), (2, .int (i32 l2)), (3, .long (i64 l3)), (5, .int (i32 l5)), (6, .int (i32 l6)), (7, .long (i64 l7))]) [0, 1, 2, 3, 4, 5, 6] rfl ?_
      exact s_X2_usefulOf_64 g hR hX2 aX2_tried aX2_triedLeave aX2_numbers aX2_weights aX2_weightsAhead aX2_grains aX2_placeFrom aX2_first n_barred n_limit n_size n_parts n_wanted n_found n_triedLeave r_n_triedLeave Q hF K_6 hK_6 l1 l2 l3 l5 l6 l7 r_l1 r_l2 r_l3 r_l5 r_l6 r_l7 h
    replace h := h.2 b33
    refine q_iload g 6 5 rfl dX2_usefulOf_36 ?_
    refine q_iload g 9 7 rfl dX2_usefulOf_38 ?_
    refine q_ishr g dX2_usefulOf_40 ?_
    refine q_iconst g (1) dX2_usefulOf_41 ?_
    refine q_iand g dX2_usefulOf_42 ?_
    refine q_if_eq g (15) 58 (r_land32 _ _) (by decide) dX2_usefulOf_43 (fun b43 => ?_) (fun b43 => ?_)
    · replace h := h.1 b43
      exact s_X2_usefulOf_58 g hR hX2 aX2_tried aX2_triedLeave aX2_numbers aX2_weights aX2_weightsAhead aX2_grains aX2_placeFrom aX2_first n_barred n_limit n_size n_parts n_wanted n_found n_triedLeave r_n_triedLeave Q hF K_6 hK_6 (wp_X2_usefulOf_24 Q n_triedLeave K_6 n) (fun v0 v1 v2 v3 v4 v5 v6 w0 w1 w2 w3 w4 w5 w6 hh => ih v0 v1 v2 v3 v4 v5 v6 w0 w1 w2 w3 w4 w5 w6 hh) l1 l2 l3 l5 l6 l7 l9 r_l1 r_l2 r_l3 r_l5 r_l6 r_l7 r_l9 h
    replace h := h.2 b43
    refine q_lload g 7 6 rfl dX2_usefulOf_46 ?_
    refine q_aload_n g 0 0 rfl dX2_usefulOf_48 ?_
    refine q_get (C := RX2) (T := TX2) (N := 14) g 15 inX2 0 1 rfl rfl (by decide) wF_X2_15 rfl dX2_usefulOf_49 ?_
    refine q_iload g 9 7 rfl dX2_usefulOf_52 ?_
    obtain ⟨c54, h⟩ := h
    obtain ⟨e54, h⟩ := h
    refine q_lald g 1 rfl c54 e54 (by decide) dX2_usefulOf_54 ?_
    obtain ⟨c55, h⟩ := h
    refine q_ladd g dX2_usefulOf_55 ?_
    refine q_topl c55 (fun x56 ex56 rx56 => ?_)
    replace h := h x56 ex56
    refine q_lstore (lv' := [(7, .long (i64 x56)), (0, .ref hX2), (1, .int (i32 l1)), (2, .int (i32 l2)), (3, .long (i64 l3)), (5, .int (i32 l5)), (6, .int (i32 l6)), (9, .int (i32 l9))]) g 7   (by decide) rfl dX2_usefulOf_56 ?_
    refine q_lv (lv' := [(0, .ref hX2), (1, .int (i32 l1)), (2, .int (i32 l2)), (3, .long (i64 l3)), (5, .int (i32 l5)), (6, .int (i32 l6)), (7, .long (i64 x56)), (9, .int (i32 l9))]) [1, 2, 3, 4, 5, 6, 0, 7] rfl ?_
    exact s_X2_usefulOf_58 g hR hX2 aX2_tried aX2_triedLeave aX2_numbers aX2_weights aX2_weightsAhead aX2_grains aX2_placeFrom aX2_first n_barred n_limit n_size n_parts n_wanted n_found n_triedLeave r_n_triedLeave Q hF K_6 hK_6 (wp_X2_usefulOf_24 Q n_triedLeave K_6 n) (fun v0 v1 v2 v3 v4 v5 v6 w0 w1 w2 w3 w4 w5 w6 hh => ih v0 v1 v2 v3 v4 v5 v6 w0 w1 w2 w3 w4 w5 w6 hh) l1 l2 l3 l5 l6 x56 l9 r_l1 r_l2 r_l3 r_l5 r_l6 rx56 r_l9 h
def wp_X2_usefulOf_87 (Q : Int → Prop) (n_triedLeave : Int → Int) (l5 : Int) : Prop := Q l5
set_option maxHeartbeats 4000000 in
set_option maxRecDepth 100000 in
theorem s_X2_usefulOf_87 {X : Cx} (g : Gd X cX2_usefulOf RX2 (some .int) 10) (hR : X.R = rmL 1 0 0) (hX2 : Nat) (aX2_tried : Nat) (aX2_triedLeave : Nat) (aX2_numbers : Nat) (aX2_weights : Nat) (aX2_weightsAhead : Nat) (aX2_grains : Nat) (aX2_placeFrom : Nat) (aX2_first : Nat) (n_barred : Int) (n_limit : Int) (n_size : Int) (n_parts : Int) (n_wanted : Int) (n_found : Int) (n_triedLeave : Int → Int) (r_n_triedLeave : rr64 n_triedLeave) (Q : Int → Prop) (hF : FQ X 0 0 (po_X2_usefulOf X.cI X.cJ hX2 aX2_tried aX2_triedLeave aX2_numbers aX2_weights aX2_weightsAhead aX2_grains aX2_placeFrom aX2_first n_barred n_limit n_size n_parts n_wanted n_found n_triedLeave Q)) : ∀ (l5 : Int), r32 l5 → wp_X2_usefulOf_87 Q n_triedLeave l5 → Wat X 0 0 87 [(5, .int (i32 l5))] [] [(hX2, .inr (2, [.ref aX2_tried, .ref aX2_triedLeave, .ref aX2_numbers, .ref aX2_weights, .ref aX2_weightsAhead, .ref aX2_grains, .ref aX2_placeFrom, .ref aX2_first, .long (i64 n_barred), .int (i32 n_limit), .int (i32 n_size), .long (i64 n_parts), .long (i64 n_wanted), .int (i32 n_found)])), (aX2_triedLeave, aL X.cJ 5 n_triedLeave)] := by
  intro l5 r_l5 h
  rw [wp_X2_usefulOf_87] at h
  refine q_iload g 5 0 rfl dX2_usefulOf_87 ?_
  exact q_iret g hF ⟨l5, rfl, rfl, r_l5, h⟩ dX2_usefulOf_89
def wp_X2_usefulOf_6 (Q : Int → Prop) (n_triedLeave : Int → Int) : Nat → Int → Int → Int → Int → Int → Prop
  | 0, _, _, _, _, _ => False
  | n + 1, l1, l2, l3, l5, l6 => ((l2 ≤ 0 → wp_X2_usefulOf_87 Q n_triedLeave l5) ∧
  (¬ (l2 ≤ 0) → (((shl32 1 l1) ≤ l6 → wp_X2_usefulOf_87 Q n_triedLeave l5) ∧
  (¬ ((shl32 1 l1) ≤ l6) → (∃ n0 : Nat, wp_X2_usefulOf_24 Q n_triedLeave (wp_X2_usefulOf_6 Q n_triedLeave n) n0 l1 l2 l3 l5 l6 0 0)))))
set_option maxHeartbeats 4000000 in
set_option maxRecDepth 100000 in
theorem s_X2_usefulOf_6 {X : Cx} (g : Gd X cX2_usefulOf RX2 (some .int) 10) (hR : X.R = rmL 1 0 0) (hX2 : Nat) (aX2_tried : Nat) (aX2_triedLeave : Nat) (aX2_numbers : Nat) (aX2_weights : Nat) (aX2_weightsAhead : Nat) (aX2_grains : Nat) (aX2_placeFrom : Nat) (aX2_first : Nat) (n_barred : Int) (n_limit : Int) (n_size : Int) (n_parts : Int) (n_wanted : Int) (n_found : Int) (n_triedLeave : Int → Int) (r_n_triedLeave : rr64 n_triedLeave) (Q : Int → Prop) (hF : FQ X 0 0 (po_X2_usefulOf X.cI X.cJ hX2 aX2_tried aX2_triedLeave aX2_numbers aX2_weights aX2_weightsAhead aX2_grains aX2_placeFrom aX2_first n_barred n_limit n_size n_parts n_wanted n_found n_triedLeave Q)) : ∀ (n : Nat) (l1 : Int) (l2 : Int) (l3 : Int) (l5 : Int) (l6 : Int), r32 l1 → r32 l2 → r64 l3 → r32 l5 → r32 l6 → wp_X2_usefulOf_6 Q n_triedLeave n l1 l2 l3 l5 l6 → Wat X 0 0 6 [(0, .ref hX2), (1, .int (i32 l1)), (2, .int (i32 l2)), (3, .long (i64 l3)), (5, .int (i32 l5)), (6, .int (i32 l6))] [] [(hX2, .inr (2, [.ref aX2_tried, .ref aX2_triedLeave, .ref aX2_numbers, .ref aX2_weights, .ref aX2_weightsAhead, .ref aX2_grains, .ref aX2_placeFrom, .ref aX2_first, .long (i64 n_barred), .int (i32 n_limit), .int (i32 n_size), .long (i64 n_parts), .long (i64 n_wanted), .int (i32 n_found)])), (aX2_triedLeave, aL X.cJ 5 n_triedLeave)] := by
  intro n
  induction n with
  | zero => intro l1 l2 l3 l5 l6 r_l1 r_l2 r_l3 r_l5 r_l6 h; exact False.elim h
  | succ n ih =>
    intro l1 l2 l3 l5 l6 r_l1 r_l2 r_l3 r_l5 r_l6 h
    rw [wp_X2_usefulOf_6] at h
    refine q_iload_n g 2 2 rfl dX2_usefulOf_6 ?_
    refine q_if_le g (80) 87 r_l2 (by decide) dX2_usefulOf_7 (fun b7 => ?_) (fun b7 => ?_)
    · replace h := h.1 b7
      refine q_lv (lv' := [(5, .int (i32 l5))]) [4] rfl ?_
      exact s_X2_usefulOf_87 g hR hX2 aX2_tried aX2_triedLeave aX2_numbers aX2_weights aX2_weightsAhead aX2_grains aX2_placeFrom aX2_first n_barred n_limit n_size n_parts n_wanted n_found n_triedLeave r_n_triedLeave Q hF l5 r_l5 h
    replace h := h.2 b7
    refine q_iload g 6 5 rfl dX2_usefulOf_10 ?_
    refine q_iconst g (1) dX2_usefulOf_12 ?_
    refine q_iload_n g 1 1 rfl dX2_usefulOf_13 ?_
    refine q_ishl g dX2_usefulOf_14 ?_
    refine q_icmp_ge g (72) 87 r_l6 (r_shl32 _ _) (by decide) dX2_usefulOf_15 (fun b15 => ?_) (fun b15 => ?_)
    · replace h := h.1 b15
      refine q_lv (lv' := [(5, .int (i32 l5))]) [4] rfl ?_
      exact s_X2_usefulOf_87 g hR hX2 aX2_tried aX2_triedLeave aX2_numbers aX2_weights aX2_weightsAhead aX2_grains aX2_placeFrom aX2_first n_barred n_limit n_size n_parts n_wanted n_found n_triedLeave r_n_triedLeave Q hF l5 r_l5 h
    replace h := h.2 b15
    refine q_lconst g 0 0 rfl dX2_usefulOf_18 ?_
    refine q_lstore (lv' := [(7, .long (i64 0)), (0, .ref hX2), (1, .int (i32 l1)), (2, .int (i32 l2)), (3, .long (i64 l3)), (5, .int (i32 l5)), (6, .int (i32 l6))]) g 7   (by decide) rfl dX2_usefulOf_19 ?_
    refine q_iconst g (0) dX2_usefulOf_21 ?_
    refine q_istore (lv' := [(9, .int (i32 0)), (7, .long (i64 0)), (0, .ref hX2), (1, .int (i32 l1)), (2, .int (i32 l2)), (3, .long (i64 l3)), (5, .int (i32 l5)), (6, .int (i32 l6))]) g 9   (by decide) rfl dX2_usefulOf_22 ?_
    refine q_lv (lv' := [(0, .ref hX2), (1, .int (i32 l1)), (2, .int (i32 l2)), (3, .long (i64 l3)), (5, .int (i32 l5)), (6, .int (i32 l6)), (7, .long (i64 0)), (9, .int (i32 0))]) [2, 3, 4, 5, 6, 7, 1, 0] rfl ?_
    obtain ⟨n0, h⟩ := h
    exact s_X2_usefulOf_24 g hR hX2 aX2_tried aX2_triedLeave aX2_numbers aX2_weights aX2_weightsAhead aX2_grains aX2_placeFrom aX2_first n_barred n_limit n_size n_parts n_wanted n_found n_triedLeave r_n_triedLeave Q hF (wp_X2_usefulOf_6 Q n_triedLeave n) (fun v0 v1 v2 v3 v4 w0 w1 w2 w3 w4 hh => ih v0 v1 v2 v3 v4 w0 w1 w2 w3 w4 hh) n0 l1 l2 l3 l5 l6 0 0 r_l1 r_l2 r_l3 r_l5 r_l6 (r64_lit _ (by decide)) (r32_lit _ (by decide)) h
def wp_X2_usefulOf (Q : Int → Prop) (n_triedLeave : Int → Int) (l1 : Int) (l2 : Int) (l3 : Int) : Prop := (∃ n0 : Nat, wp_X2_usefulOf_6 Q n_triedLeave n0 l1 l2 l3 0 1)
set_option maxHeartbeats 4000000 in
set_option maxRecDepth 100000 in
theorem c_X2_usefulOf (l : Launch) (D : va_G) (cI cJ : ClassId) (zt : Nat) (hX2 : Nat) (aX2_tried : Nat) (aX2_triedLeave : Nat) (aX2_numbers : Nat) (aX2_weights : Nat) (aX2_weightsAhead : Nat) (aX2_grains : Nat) (aX2_placeFrom : Nat) (aX2_first : Nat) (n_barred : Int) (n_limit : Int) (n_size : Int) (n_parts : Int) (n_wanted : Int) (n_found : Int) (n_triedLeave : Int → Int) (l1 : Int) (l2 : Int) (l3 : Int) (Q : Int → Prop) (r_n_triedLeave : rr64 n_triedLeave) (r_l1 : r32 l1) (r_l2 : r32 l2) (r_l3 : r64 l3) (h : wp_X2_usefulOf Q n_triedLeave l1 l2 l3) : Ct l D cI cJ zt yX2_usefulOf cX2_usefulOf 10 (some .int) 1 0 0 [.ref hX2, .int (i32 l1), .int (i32 l2), .long (i64 l3)] [(hX2, .inr (2, [.ref aX2_tried, .ref aX2_triedLeave, .ref aX2_numbers, .ref aX2_weights, .ref aX2_weightsAhead, .ref aX2_grains, .ref aX2_placeFrom, .ref aX2_first, .long (i64 n_barred), .int (i32 n_limit), .int (i32 n_size), .long (i64 n_parts), .long (i64 n_wanted), .int (i32 n_found)])), (aX2_triedLeave, aL cJ 5 n_triedLeave)] (po_X2_usefulOf cI cJ hX2 aX2_tried aX2_triedLeave aX2_numbers aX2_weights aX2_weightsAhead aX2_grains aX2_placeFrom aX2_first n_barred n_limit n_size n_parts n_wanted n_found n_triedLeave Q) := by
  refine ct_of (by decide +kernel) (Nat.le_of_ble_eq_true rfl) (fun X hl hDD hcI hcJ hzt hR hF hnm g => ?_)
  subst hl; subst hDD; subst hcI; subst hcJ; subst hzt
  show Wat X 0 0 0 [(0, .ref hX2), (1, .int (i32 l1)), (2, .int (i32 l2)), (3, .long (i64 l3))] [] [(hX2, .inr (2, [.ref aX2_tried, .ref aX2_triedLeave, .ref aX2_numbers, .ref aX2_weights, .ref aX2_weightsAhead, .ref aX2_grains, .ref aX2_placeFrom, .ref aX2_first, .long (i64 n_barred), .int (i32 n_limit), .int (i32 n_size), .long (i64 n_parts), .long (i64 n_wanted), .int (i32 n_found)])), (aX2_triedLeave, aL X.cJ 5 n_triedLeave)]
  replace g : Gd X cX2_usefulOf RX2 (some .int) 10 := g
  rw [wp_X2_usefulOf] at h
  refine q_iconst g (0) dX2_usefulOf_0 ?_
  refine q_istore (lv' := [(5, .int (i32 0)), (0, .ref hX2), (1, .int (i32 l1)), (2, .int (i32 l2)), (3, .long (i64 l3))]) g 5   (by decide) rfl dX2_usefulOf_1 ?_
  refine q_iconst g (1) dX2_usefulOf_3 ?_
  refine q_istore (lv' := [(6, .int (i32 1)), (5, .int (i32 0)), (0, .ref hX2), (1, .int (i32 l1)), (2, .int (i32 l2)), (3, .long (i64 l3))]) g 6   (by decide) rfl dX2_usefulOf_4 ?_
  refine q_lv (lv' := [(0, .ref hX2), (1, .int (i32 l1)), (2, .int (i32 l2)), (3, .long (i64 l3)), (5, .int (i32 0)), (6, .int (i32 1))]) [2, 3, 4, 5, 1, 0] rfl ?_
  obtain ⟨n0, h⟩ := h
  exact s_X2_usefulOf_6 g hR hX2 aX2_tried aX2_triedLeave aX2_numbers aX2_weights aX2_weightsAhead aX2_grains aX2_placeFrom aX2_first n_barred n_limit n_size n_parts n_wanted n_found n_triedLeave r_n_triedLeave Q hF n0 l1 l2 l3 0 1 r_l1 r_l2 r_l3 (r32_lit _ (by decide)) (r32_lit _ (by decide)) h
theorem dX2_leaveOutMultiples_0 : decode cX2_leaveOutMultiples 0 = .ok (.iconst 1, 1) := by decide +kernel
theorem dX2_leaveOutMultiples_1 : decode cX2_leaveOutMultiples 1 = .ok (.istore 5, 2) := by decide +kernel
theorem dX2_leaveOutMultiples_3 : decode cX2_leaveOutMultiples 3 = .ok (.iload_n 1, 1) := by decide +kernel
theorem dX2_leaveOutMultiples_4 : decode cX2_leaveOutMultiples 4 = .ok (.iconst 1, 1) := by decide +kernel
theorem dX2_leaveOutMultiples_5 : decode cX2_leaveOutMultiples 5 = .ok (.if_icmp .le 23, 3) := by decide +kernel
theorem dX2_leaveOutMultiples_8 : decode cX2_leaveOutMultiples 8 = .ok (.iload 5, 2) := by decide +kernel
theorem dX2_leaveOutMultiples_10 : decode cX2_leaveOutMultiples 10 = .ok (.aload_n 0, 1) := by decide +kernel
theorem dX2_leaveOutMultiples_11 : decode cX2_leaveOutMultiples 11 = .ok (.getfield 45, 3) := by decide +kernel
theorem dX2_leaveOutMultiples_14 : decode cX2_leaveOutMultiples 14 = .ok (.iload_n 1, 1) := by decide +kernel
theorem dX2_leaveOutMultiples_15 : decode cX2_leaveOutMultiples 15 = .ok (.idiv, 1) := by decide +kernel
theorem dX2_leaveOutMultiples_16 : decode cX2_leaveOutMultiples 16 = .ok (.if_icmp .gt 12, 3) := by decide +kernel
theorem dX2_leaveOutMultiples_19 : decode cX2_leaveOutMultiples 19 = .ok (.iload 5, 2) := by decide +kernel
theorem dX2_leaveOutMultiples_21 : decode cX2_leaveOutMultiples 21 = .ok (.iload_n 1, 1) := by decide +kernel
theorem dX2_leaveOutMultiples_22 : decode cX2_leaveOutMultiples 22 = .ok (.imul, 1) := by decide +kernel
theorem dX2_leaveOutMultiples_23 : decode cX2_leaveOutMultiples 23 = .ok (.istore 5, 2) := by decide +kernel
theorem dX2_leaveOutMultiples_25 : decode cX2_leaveOutMultiples 25 = .ok (.goto (-22), 3) := by decide +kernel
theorem dX2_leaveOutMultiples_28 : decode cX2_leaveOutMultiples 28 = .ok (.iload_n 2, 1) := by decide +kernel
theorem dX2_leaveOutMultiples_29 : decode cX2_leaveOutMultiples 29 = .ok (.iload 5, 2) := by decide +kernel
theorem dX2_leaveOutMultiples_31 : decode cX2_leaveOutMultiples 31 = .ok (.if_icmp .le 5, 3) := by decide +kernel
theorem dX2_leaveOutMultiples_34 : decode cX2_leaveOutMultiples 34 = .ok (.iconst 0, 1) := by decide +kernel
theorem dX2_leaveOutMultiples_35 : decode cX2_leaveOutMultiples 35 = .ok (.ireturn, 1) := by decide +kernel
theorem dX2_leaveOutMultiples_36 : decode cX2_leaveOutMultiples 36 = .ok (.iload_n 1, 1) := by decide +kernel
theorem dX2_leaveOutMultiples_37 : decode cX2_leaveOutMultiples 37 = .ok (.iconst 1, 1) := by decide +kernel
theorem dX2_leaveOutMultiples_38 : decode cX2_leaveOutMultiples 38 = .ok (.if_icmp .le 104, 3) := by decide +kernel
theorem dX2_leaveOutMultiples_41 : decode cX2_leaveOutMultiples 41 = .ok (.iload 5, 2) := by decide +kernel
theorem dX2_leaveOutMultiples_43 : decode cX2_leaveOutMultiples 43 = .ok (.iconst 1, 1) := by decide +kernel
theorem dX2_leaveOutMultiples_44 : decode cX2_leaveOutMultiples 44 = .ok (.if_icmp .le 98, 3) := by decide +kernel
theorem dX2_leaveOutMultiples_47 : decode cX2_leaveOutMultiples 47 = .ok (.aload_n 0, 1) := by decide +kernel
theorem dX2_leaveOutMultiples_48 : decode cX2_leaveOutMultiples 48 = .ok (.iload 5, 2) := by decide +kernel
theorem dX2_leaveOutMultiples_50 : decode cX2_leaveOutMultiples 50 = .ok (.iload_n 1, 1) := by decide +kernel
theorem dX2_leaveOutMultiples_51 : decode cX2_leaveOutMultiples 51 = .ok (.invokevirtual 94, 3) := by decide +kernel
theorem dX2_leaveOutMultiples_54 : decode cX2_leaveOutMultiples 54 = .ok (.istore 6, 2) := by decide +kernel
theorem dX2_leaveOutMultiples_56 : decode cX2_leaveOutMultiples 56 = .ok (.iload 6, 2) := by decide +kernel
theorem dX2_leaveOutMultiples_58 : decode cX2_leaveOutMultiples 58 = .ok (.iconst 5, 1) := by decide +kernel
theorem dX2_leaveOutMultiples_59 : decode cX2_leaveOutMultiples 59 = .ok (.if_icmp .le 5, 3) := by decide +kernel
theorem dX2_leaveOutMultiples_62 : decode cX2_leaveOutMultiples 62 = .ok (.iconst 1, 1) := by decide +kernel
theorem dX2_leaveOutMultiples_63 : decode cX2_leaveOutMultiples 63 = .ok (.ireturn, 1) := by decide +kernel
theorem dX2_leaveOutMultiples_64 : decode cX2_leaveOutMultiples 64 = .ok (.iload 5, 2) := by decide +kernel
theorem dX2_leaveOutMultiples_66 : decode cX2_leaveOutMultiples 66 = .ok (.iload_n 2, 1) := by decide +kernel
theorem dX2_leaveOutMultiples_67 : decode cX2_leaveOutMultiples 67 = .ok (.if_icmp .ne 22, 3) := by decide +kernel
theorem dX2_leaveOutMultiples_70 : decode cX2_leaveOutMultiples 70 = .ok (.iload_n 3, 1) := by decide +kernel
theorem dX2_leaveOutMultiples_71 : decode cX2_leaveOutMultiples 71 = .ok (.iload_n 1, 1) := by decide +kernel
theorem dX2_leaveOutMultiples_72 : decode cX2_leaveOutMultiples 72 = .ok (.irem, 1) := by decide +kernel
theorem dX2_leaveOutMultiples_73 : decode cX2_leaveOutMultiples 73 = .ok (.i2l, 1) := by decide +kernel
theorem dX2_leaveOutMultiples_74 : decode cX2_leaveOutMultiples 74 = .ok (.iload 4, 2) := by decide +kernel
theorem dX2_leaveOutMultiples_76 : decode cX2_leaveOutMultiples 76 = .ok (.i2l, 1) := by decide +kernel
theorem dX2_leaveOutMultiples_77 : decode cX2_leaveOutMultiples 77 = .ok (.iload_n 1, 1) := by decide +kernel
theorem dX2_leaveOutMultiples_78 : decode cX2_leaveOutMultiples 78 = .ok (.i2l, 1) := by decide +kernel
theorem dX2_leaveOutMultiples_79 : decode cX2_leaveOutMultiples 79 = .ok (.invokestatic 97, 3) := by decide +kernel
theorem dX2_leaveOutMultiples_82 : decode cX2_leaveOutMultiples 82 = .ok (.lmul, 1) := by decide +kernel
theorem dX2_leaveOutMultiples_83 : decode cX2_leaveOutMultiples 83 = .ok (.iload_n 1, 1) := by decide +kernel
theorem dX2_leaveOutMultiples_84 : decode cX2_leaveOutMultiples 84 = .ok (.i2l, 1) := by decide +kernel
theorem dX2_leaveOutMultiples_85 : decode cX2_leaveOutMultiples 85 = .ok (.lrem, 1) := by decide +kernel
theorem dX2_leaveOutMultiples_86 : decode cX2_leaveOutMultiples 86 = .ok (.goto 4, 3) := by decide +kernel
theorem dX2_leaveOutMultiples_89 : decode cX2_leaveOutMultiples 89 = .ok (.lconst 0, 1) := by decide +kernel
theorem dX2_leaveOutMultiples_90 : decode cX2_leaveOutMultiples 90 = .ok (.lstore 7, 2) := by decide +kernel
theorem dX2_leaveOutMultiples_92 : decode cX2_leaveOutMultiples 92 = .ok (.aload_n 0, 1) := by decide +kernel
theorem dX2_leaveOutMultiples_93 : decode cX2_leaveOutMultiples 93 = .ok (.iload 6, 2) := by decide +kernel
theorem dX2_leaveOutMultiples_95 : decode cX2_leaveOutMultiples 95 = .ok (.iload_n 1, 1) := by decide +kernel
theorem dX2_leaveOutMultiples_96 : decode cX2_leaveOutMultiples 96 = .ok (.lload 7, 2) := by decide +kernel
theorem dX2_leaveOutMultiples_98 : decode cX2_leaveOutMultiples 98 = .ok (.invokevirtual 101, 3) := by decide +kernel
theorem dX2_leaveOutMultiples_101 : decode cX2_leaveOutMultiples 101 = .ok (.istore 9, 2) := by decide +kernel
theorem dX2_leaveOutMultiples_103 : decode cX2_leaveOutMultiples 103 = .ok (.aload_n 0, 1) := by decide +kernel
theorem dX2_leaveOutMultiples_104 : decode cX2_leaveOutMultiples 104 = .ok (.iload 6, 2) := by decide +kernel
theorem dX2_leaveOutMultiples_106 : decode cX2_leaveOutMultiples 106 = .ok (.iload 9, 2) := by decide +kernel
theorem dX2_leaveOutMultiples_108 : decode cX2_leaveOutMultiples 108 = .ok (.invokevirtual 105, 3) := by decide +kernel
theorem dX2_leaveOutMultiples_111 : decode cX2_leaveOutMultiples 111 = .ok (.iload 9, 2) := by decide +kernel
theorem dX2_leaveOutMultiples_113 : decode cX2_leaveOutMultiples 113 = .ok (.ifCond .ne 9, 3) := by decide +kernel
theorem dX2_leaveOutMultiples_116 : decode cX2_leaveOutMultiples 116 = .ok (.iload 5, 2) := by decide +kernel
theorem dX2_leaveOutMultiples_118 : decode cX2_leaveOutMultiples 118 = .ok (.iload_n 2, 1) := by decide +kernel
theorem dX2_leaveOutMultiples_119 : decode cX2_leaveOutMultiples 119 = .ok (.if_icmp .ne 14, 3) := by decide +kernel
theorem dX2_leaveOutMultiples_122 : decode cX2_leaveOutMultiples 122 = .ok (.iload 9, 2) := by decide +kernel
theorem dX2_leaveOutMultiples_124 : decode cX2_leaveOutMultiples 124 = .ok (.ifCond .eq 7, 3) := by decide +kernel
theorem dX2_leaveOutMultiples_127 : decode cX2_leaveOutMultiples 127 = .ok (.iconst 1, 1) := by decide +kernel
theorem dX2_leaveOutMultiples_128 : decode cX2_leaveOutMultiples 128 = .ok (.goto 4, 3) := by decide +kernel
theorem dX2_leaveOutMultiples_131 : decode cX2_leaveOutMultiples 131 = .ok (.iconst 0, 1) := by decide +kernel
theorem dX2_leaveOutMultiples_132 : decode cX2_leaveOutMultiples 132 = .ok (.ireturn, 1) := by decide +kernel
theorem dX2_leaveOutMultiples_133 : decode cX2_leaveOutMultiples 133 = .ok (.iload 5, 2) := by decide +kernel
theorem dX2_leaveOutMultiples_135 : decode cX2_leaveOutMultiples 135 = .ok (.iload_n 1, 1) := by decide +kernel
theorem dX2_leaveOutMultiples_136 : decode cX2_leaveOutMultiples 136 = .ok (.idiv, 1) := by decide +kernel
theorem dX2_leaveOutMultiples_137 : decode cX2_leaveOutMultiples 137 = .ok (.istore 5, 2) := by decide +kernel
theorem dX2_leaveOutMultiples_139 : decode cX2_leaveOutMultiples 139 = .ok (.goto (-103), 3) := by decide +kernel
theorem dX2_leaveOutMultiples_142 : decode cX2_leaveOutMultiples 142 = .ok (.iconst 1, 1) := by decide +kernel
theorem dX2_leaveOutMultiples_143 : decode cX2_leaveOutMultiples 143 = .ok (.ireturn, 1) := by decide +kernel
abbrev po_X2_leaveOutMultiples (cI cJ : ClassId) (hX2 : Nat) (aX2_tried : Nat) (aX2_triedLeave : Nat) (aX2_numbers : Nat) (aX2_weights : Nat) (aX2_weightsAhead : Nat) (aX2_grains : Nat) (aX2_placeFrom : Nat) (aX2_first : Nat) (n_limit : Int) (n_size : Int) (n_parts : Int) (n_wanted : Int) (n_found : Int) (Q : Int → (Int → Int) → (Int → Int) → Int → Prop) : Option Value → va_W → Prop := fun rv w1 => ∃ (r0 : Int) (n_tried : Int → Int) (n_triedLeave : Int → Int) (n_barred : Int), rv = some (.int (i32 r0)) ∧ w1 = [(hX2, .inr (2, [.ref aX2_tried, .ref aX2_triedLeave, .ref aX2_numbers, .ref aX2_weights, .ref aX2_weightsAhead, .ref aX2_grains, .ref aX2_placeFrom, .ref aX2_first, .long (i64 n_barred), .int (i32 n_limit), .int (i32 n_size), .long (i64 n_parts), .long (i64 n_wanted), .int (i32 n_found)])), (aX2_tried, aI cI 5 n_tried), (aX2_triedLeave, aL cJ 5 n_triedLeave)] ∧ r32 r0 ∧ rr32 n_tried ∧ rr64 n_triedLeave ∧ r64 n_barred ∧ Q r0 n_tried n_triedLeave n_barred
def wp_X2_leaveOutMultiples_132 (Q : Int → (Int → Int) → (Int → Int) → Int → Prop) (n_limit : Int) (n_tried : Int → Int) (n_triedLeave : Int → Int) (n_barred : Int) (k0 : Int) : Prop := ((k0 = 0 ∨ k0 = 1) ∧ Q k0 n_tried n_triedLeave n_barred)
set_option maxHeartbeats 4000000 in
set_option maxRecDepth 100000 in
theorem s_X2_leaveOutMultiples_132 {X : Cx} (g : Gd X cX2_leaveOutMultiples RX2 (some .boolean) 10) (hR : X.R = rmL 4 0 0) (hX2 : Nat) (aX2_tried : Nat) (aX2_triedLeave : Nat) (aX2_numbers : Nat) (aX2_weights : Nat) (aX2_weightsAhead : Nat) (aX2_grains : Nat) (aX2_placeFrom : Nat) (aX2_first : Nat) (n_size : Int) (n_parts : Int) (n_wanted : Int) (n_found : Int) (n_limit : Int) (r_n_limit : r32 n_limit) (Q : Int → (Int → Int) → (Int → Int) → Int → Prop) (hF : FQ X 0 0 (po_X2_leaveOutMultiples X.cI X.cJ hX2 aX2_tried aX2_triedLeave aX2_numbers aX2_weights aX2_weightsAhead aX2_grains aX2_placeFrom aX2_first n_limit n_size n_parts n_wanted n_found Q)) : ∀ (n_tried : Int → Int) (n_triedLeave : Int → Int) (n_barred : Int) (k0 : Int), rr32 n_tried → rr64 n_triedLeave → r64 n_barred → r32 k0 → wp_X2_leaveOutMultiples_132 Q n_limit n_tried n_triedLeave n_barred k0 → Wat X 0 0 132 [] [.int (i32 k0)] [(hX2, .inr (2, [.ref aX2_tried, .ref aX2_triedLeave, .ref aX2_numbers, .ref aX2_weights, .ref aX2_weightsAhead, .ref aX2_grains, .ref aX2_placeFrom, .ref aX2_first, .long (i64 n_barred), .int (i32 n_limit), .int (i32 n_size), .long (i64 n_parts), .long (i64 n_wanted), .int (i32 n_found)])), (aX2_tried, aI X.cI 5 n_tried), (aX2_triedLeave, aL X.cJ 5 n_triedLeave)] := by
  intro n_tried n_triedLeave n_barred k0 r_n_tried r_n_triedLeave r_n_barred r_k0 h
  rw [wp_X2_leaveOutMultiples_132] at h
  obtain ⟨z132, h⟩ := h
  exact q_zret g hF z132 ⟨k0, n_tried, n_triedLeave, n_barred, rfl, rfl, r_k0, r_n_tried, r_n_triedLeave, r_n_barred, h⟩ dX2_leaveOutMultiples_132
def wp_X2_leaveOutMultiples_122 (Q : Int → (Int → Int) → (Int → Int) → Int → Prop) (n_limit : Int) (n_tried : Int → Int) (n_triedLeave : Int → Int) (n_barred : Int) (l9 : Int) : Prop := ((l9 = 0 → wp_X2_leaveOutMultiples_132 Q n_limit n_tried n_triedLeave n_barred 0) ∧
  (¬ (l9 = 0) → wp_X2_leaveOutMultiples_132 Q n_limit n_tried n_triedLeave n_barred 1))
set_option maxHeartbeats 4000000 in
set_option maxRecDepth 100000 in
theorem s_X2_leaveOutMultiples_122 {X : Cx} (g : Gd X cX2_leaveOutMultiples RX2 (some .boolean) 10) (hR : X.R = rmL 4 0 0) (hX2 : Nat) (aX2_tried : Nat) (aX2_triedLeave : Nat) (aX2_numbers : Nat) (aX2_weights : Nat) (aX2_weightsAhead : Nat) (aX2_grains : Nat) (aX2_placeFrom : Nat) (aX2_first : Nat) (n_size : Int) (n_parts : Int) (n_wanted : Int) (n_found : Int) (n_limit : Int) (r_n_limit : r32 n_limit) (Q : Int → (Int → Int) → (Int → Int) → Int → Prop) (hF : FQ X 0 0 (po_X2_leaveOutMultiples X.cI X.cJ hX2 aX2_tried aX2_triedLeave aX2_numbers aX2_weights aX2_weightsAhead aX2_grains aX2_placeFrom aX2_first n_limit n_size n_parts n_wanted n_found Q)) : ∀ (n_tried : Int → Int) (n_triedLeave : Int → Int) (n_barred : Int) (l9 : Int), rr32 n_tried → rr64 n_triedLeave → r64 n_barred → r32 l9 → wp_X2_leaveOutMultiples_122 Q n_limit n_tried n_triedLeave n_barred l9 → Wat X 0 0 122 [(9, .int (i32 l9))] [] [(hX2, .inr (2, [.ref aX2_tried, .ref aX2_triedLeave, .ref aX2_numbers, .ref aX2_weights, .ref aX2_weightsAhead, .ref aX2_grains, .ref aX2_placeFrom, .ref aX2_first, .long (i64 n_barred), .int (i32 n_limit), .int (i32 n_size), .long (i64 n_parts), .long (i64 n_wanted), .int (i32 n_found)])), (aX2_tried, aI X.cI 5 n_tried), (aX2_triedLeave, aL X.cJ 5 n_triedLeave)] := by
  intro n_tried n_triedLeave n_barred l9 r_n_tried r_n_triedLeave r_n_barred r_l9 h
  rw [wp_X2_leaveOutMultiples_122] at h
  refine q_iload g 9 0 rfl dX2_leaveOutMultiples_122 ?_
  refine q_if_eq g (7) 131 r_l9 (by decide) dX2_leaveOutMultiples_124 (fun b124 => ?_) (fun b124 => ?_)
  · replace h := h.1 b124
    refine q_iconst g (0) dX2_leaveOutMultiples_131 ?_
    refine q_lv (lv' := []) [] rfl ?_
    exact s_X2_leaveOutMultiples_132 g hR hX2 aX2_tried aX2_triedLeave aX2_numbers aX2_weights aX2_weightsAhead aX2_grains aX2_placeFrom aX2_first n_size n_parts n_wanted n_found n_limit r_n_limit Q hF n_tried n_triedLeave n_barred 0 r_n_tried r_n_triedLeave r_n_barred (r32_lit _ (by decide)) h
  replace h := h.2 b124
  refine q_iconst g (1) dX2_leaveOutMultiples_127 ?_
  refine q_goto g (4) 132 (by decide) dX2_leaveOutMultiples_128 ?_
  refine q_lv (lv' := []) [] rfl ?_
  exact s_X2_leaveOutMultiples_132 g hR hX2 aX2_tried aX2_triedLeave aX2_numbers aX2_weights aX2_weightsAhead aX2_grains aX2_placeFrom aX2_first n_size n_parts n_wanted n_found n_limit r_n_limit Q hF n_tried n_triedLeave n_barred 1 r_n_tried r_n_triedLeave r_n_barred (r32_lit _ (by decide)) h
def wp_X2_leaveOutMultiples_90 (Q : Int → (Int → Int) → (Int → Int) → Int → Prop) (n_limit : Int) (K_36 : (Int → Int) → (Int → Int) → Int → Int → Int → Int → Int → Int → Prop) (n_tried : Int → Int) (n_triedLeave : Int → Int) (n_barred : Int) (l1 : Int) (l2 : Int) (l3 : Int) (l4 : Int) (l5 : Int) (l6 : Int) (k0 : Int) : Prop := wp_X2_usefulOf (fun (x98 : Int) => wp_X2_bar (fun (n_barred_108 : Int) => ((¬ x98 = 0 → wp_X2_leaveOutMultiples_122 Q n_limit n_tried n_triedLeave n_barred_108 x98) ∧
  (x98 = 0 → ((¬ l5 = l2 → (0 < l1 ∧ ∀ x137 : Int, x137 = (l5.tdiv l1) → K_36 n_tried n_triedLeave n_barred_108 l1 l2 l3 l4 x137)) ∧
  (l5 = l2 → wp_X2_leaveOutMultiples_122 Q n_limit n_tried n_triedLeave n_barred_108 x98))))) n_tried n_barred l6 x98) n_triedLeave l6 l1 k0
set_option maxHeartbeats 4000000 in
set_option maxRecDepth 100000 in
theorem s_X2_leaveOutMultiples_90 {X : Cx} (g : Gd X cX2_leaveOutMultiples RX2 (some .boolean) 10) (hR : X.R = rmL 4 0 0) (hX2 : Nat) (aX2_tried : Nat) (aX2_triedLeave : Nat) (aX2_numbers : Nat) (aX2_weights : Nat) (aX2_weightsAhead : Nat) (aX2_grains : Nat) (aX2_placeFrom : Nat) (aX2_first : Nat) (n_size : Int) (n_parts : Int) (n_wanted : Int) (n_found : Int) (n_limit : Int) (r_n_limit : r32 n_limit) (Q : Int → (Int → Int) → (Int → Int) → Int → Prop) (hF : FQ X 0 0 (po_X2_leaveOutMultiples X.cI X.cJ hX2 aX2_tried aX2_triedLeave aX2_numbers aX2_weights aX2_weightsAhead aX2_grains aX2_placeFrom aX2_first n_limit n_size n_parts n_wanted n_found Q)) (K_36 : (Int → Int) → (Int → Int) → Int → Int → Int → Int → Int → Int → Prop) (hK_36 : ∀ (n_tried : Int → Int) (n_triedLeave : Int → Int) (n_barred : Int) (l1 : Int) (l2 : Int) (l3 : Int) (l4 : Int) (l5 : Int), rr32 n_tried → rr64 n_triedLeave → r64 n_barred → r32 l1 → r32 l2 → r32 l3 → r32 l4 → r32 l5 → K_36 n_tried n_triedLeave n_barred l1 l2 l3 l4 l5 → Wat X 0 0 36 [(0, .ref hX2), (1, .int (i32 l1)), (2, .int (i32 l2)), (3, .int (i32 l3)), (4, .int (i32 l4)), (5, .int (i32 l5))] [] [(hX2, .inr (2, [.ref aX2_tried, .ref aX2_triedLeave, .ref aX2_numbers, .ref aX2_weights, .ref aX2_weightsAhead, .ref aX2_grains, .ref aX2_placeFrom, .ref aX2_first, .long (i64 n_barred), .int (i32 n_limit), .int (i32 n_size), .long (i64 n_parts), .long (i64 n_wanted), .int (i32 n_found)])), (aX2_tried, aI X.cI 5 n_tried), (aX2_triedLeave, aL X.cJ 5 n_triedLeave)]) : ∀ (n_tried : Int → Int) (n_triedLeave : Int → Int) (n_barred : Int) (l1 : Int) (l2 : Int) (l3 : Int) (l4 : Int) (l5 : Int) (l6 : Int) (k0 : Int), rr32 n_tried → rr64 n_triedLeave → r64 n_barred → r32 l1 → r32 l2 → r32 l3 → r32 l4 → r32 l5 → r32 l6 → r64 k0 → wp_X2_leaveOutMultiples_90 Q n_limit K_36 n_tried n_triedLeave n_barred l1 l2 l3 l4 l5 l6 k0 → Wat X 0 0 90 [(0, .ref hX2), (1, .int (i32 l1)), (2, .int (i32 l2)), (3, .int (i32 l3)), (4, .int (i32 l4)), (5, .int (i32 l5)), (6, .int (i32 l6))] [.long (i64 k0)] [(hX2, .inr (2, [.ref aX2_tried, .ref aX2_triedLeave, .ref aX2_numbers, .ref aX2_weights, .ref aX2_weightsAhead, .ref aX2_grains, .ref aX2_placeFrom, .ref aX2_first, .long (i64 n_barred), .int (i32 n_limit), .int (i32 n_size), .long (i64 n_parts), .long (i64 n_wanted), .int (i32 n_found)])), (aX2_tried, aI X.cI 5 n_tried), (aX2_triedLeave, aL X.cJ 5 n_triedLeave)] := by
  intro n_tried n_triedLeave n_barred l1 l2 l3 l4 l5 l6 k0 r_n_tried r_n_triedLeave r_n_barred r_l1 r_l2 r_l3 r_l4 r_l5 r_l6 r_k0 h
  rw [wp_X2_leaveOutMultiples_90] at h
  refine q_lstore (lv' := [(7, .long (i64 k0)), (0, .ref hX2), (1, .int (i32 l1)), (2, .int (i32 l2)), (3, .int (i32 l3)), (4, .int (i32 l4)), (5, .int (i32 l5)), (6, .int (i32 l6))]) g 7   (by decide) rfl dX2_leaveOutMultiples_90 ?_
  refine q_aload_n g 0 1 rfl dX2_leaveOutMultiples_92 ?_
  refine q_iload g 6 7 rfl dX2_leaveOutMultiples_93 ?_
  refine q_iload_n g 1 2 rfl dX2_leaveOutMultiples_95 ?_
  refine q_lload g 7 0 rfl dX2_leaveOutMultiples_96 ?_
  refine q_callV (lev := 1) (mc := 0) (ms := 0) g 101 (c_X2_usefulOf X.l X.D X.cI X.cJ X.zt hX2 aX2_tried aX2_triedLeave aX2_numbers aX2_weights aX2_weightsAhead aX2_grains aX2_placeFrom aX2_first n_barred n_limit n_size n_parts n_wanted n_found n_triedLeave l6 l1 k0 _ r_n_triedLeave r_l6 r_l1 r_k0 h) (wr := [(aX2_tried, aI X.cI 5 n_tried)]) [0, 2] [1] rfl rfl rfl (by decide) (by decide) (by decide) (ci := 2) rfl rfl rfl wM_X2_101 wI_X2_usefulOf wS_X2_usefulOf wZ_X2 wC_X2_usefulOf 3 rfl (by decide +kernel) (by rw [hR]; exact ⟨by show 1 + 1 ≤ 4; omega, by show 8 + (10 + 11) + 100 * 1 ≤ 100 * 4; omega⟩) (by rw [hR]; exact ⟨Nat.le_refl _, Nat.le_refl _⟩) (Nat.le_of_ble_eq_true rfl) rfl dX2_leaveOutMultiples_98 (fun rv w1 hq => ?_)
  obtain ⟨x98, rfl, rfl, rx98, h⟩ := hq
  refine q_ws (ws' := [(hX2, .inr (2, [.ref aX2_tried, .ref aX2_triedLeave, .ref aX2_numbers, .ref aX2_weights, .ref aX2_weightsAhead, .ref aX2_grains, .ref aX2_placeFrom, .ref aX2_first, .long (i64 n_barred), .int (i32 n_limit), .int (i32 n_size), .long (i64 n_parts), .long (i64 n_wanted), .int (i32 n_found)])), (aX2_tried, aI X.cI 5 n_tried), (aX2_triedLeave, aL X.cJ 5 n_triedLeave)]) [1, 0, 2] (by decide) rfl rfl ?_
  show Wat X 0 0 101 [(7, .long (i64 k0)), (0, .ref hX2), (1, .int (i32 l1)), (2, .int (i32 l2)), (3, .int (i32 l3)), (4, .int (i32 l4)), (5, .int (i32 l5)), (6, .int (i32 l6))] [.int (i32 x98)] [(hX2, .inr (2, [.ref aX2_tried, .ref aX2_triedLeave, .ref aX2_numbers, .ref aX2_weights, .ref aX2_weightsAhead, .ref aX2_grains, .ref aX2_placeFrom, .ref aX2_first, .long (i64 n_barred), .int (i32 n_limit), .int (i32 n_size), .long (i64 n_parts), .long (i64 n_wanted), .int (i32 n_found)])), (aX2_tried, aI X.cI 5 n_tried), (aX2_triedLeave, aL X.cJ 5 n_triedLeave)]
  refine q_istore (lv' := [(9, .int (i32 x98)), (7, .long (i64 k0)), (0, .ref hX2), (1, .int (i32 l1)), (2, .int (i32 l2)), (3, .int (i32 l3)), (4, .int (i32 l4)), (5, .int (i32 l5)), (6, .int (i32 l6))]) g 9   (by decide) rfl dX2_leaveOutMultiples_101 ?_
  refine q_aload_n g 0 2 rfl dX2_leaveOutMultiples_103 ?_
  refine q_iload g 6 8 rfl dX2_leaveOutMultiples_104 ?_
  refine q_iload g 9 0 rfl dX2_leaveOutMultiples_106 ?_
  refine q_callV (lev := 2) (mc := 0) (ms := 0) g 105 (c_X2_bar X.l X.D X.cI X.cJ X.zt hX2 aX2_tried aX2_triedLeave aX2_numbers aX2_weights aX2_weightsAhead aX2_grains aX2_placeFrom aX2_first n_barred n_limit n_size n_parts n_wanted n_found n_tried l6 x98 _ r_n_tried r_n_barred r_l6 rx98 h) (wr := [(aX2_triedLeave, aL X.cJ 5 n_triedLeave)]) [0, 1] [2] rfl rfl rfl (by decide) (by decide) (by decide) (ci := 2) rfl rfl rfl wM_X2_105 wI_X2_bar wS_X2_bar wZ_X2 wC_X2_bar 2 rfl (by decide +kernel) (by rw [hR]; exact ⟨by show 2 + 1 ≤ 4; omega, by show 8 + (4 + 11) + 100 * 2 ≤ 100 * 4; omega⟩) (by rw [hR]; exact ⟨Nat.le_refl _, Nat.le_refl _⟩) (Nat.le_of_ble_eq_true rfl) rfl dX2_leaveOutMultiples_108 (fun rv w1 hq => ?_)
  obtain ⟨n_barred_108, rfl, rfl, rn_barred_108, h⟩ := hq
  refine q_ws (ws' := [(hX2, .inr (2, [.ref aX2_tried, .ref aX2_triedLeave, .ref aX2_numbers, .ref aX2_weights, .ref aX2_weightsAhead, .ref aX2_grains, .ref aX2_placeFrom, .ref aX2_first, .long (i64 n_barred_108), .int (i32 n_limit), .int (i32 n_size), .long (i64 n_parts), .long (i64 n_wanted), .int (i32 n_found)])), (aX2_tried, aI X.cI 5 n_tried), (aX2_triedLeave, aL X.cJ 5 n_triedLeave)]) [1, 2, 0] (by decide) rfl rfl ?_
  show Wat X 0 0 111 [(9, .int (i32 x98)), (7, .long (i64 k0)), (0, .ref hX2), (1, .int (i32 l1)), (2, .int (i32 l2)), (3, .int (i32 l3)), (4, .int (i32 l4)), (5, .int (i32 l5)), (6, .int (i32 l6))] [] [(hX2, .inr (2, [.ref aX2_tried, .ref aX2_triedLeave, .ref aX2_numbers, .ref aX2_weights, .ref aX2_weightsAhead, .ref aX2_grains, .ref aX2_placeFrom, .ref aX2_first, .long (i64 n_barred_108), .int (i32 n_limit), .int (i32 n_size), .long (i64 n_parts), .long (i64 n_wanted), .int (i32 n_found)])), (aX2_tried, aI X.cI 5 n_tried), (aX2_triedLeave, aL X.cJ 5 n_triedLeave)]
  refine q_iload g 9 0 rfl dX2_leaveOutMultiples_111 ?_
  refine q_if_ne g (9) 122 rx98 (by decide) dX2_leaveOutMultiples_113 (fun b113 => ?_) (fun b113 => ?_)
  · replace h := h.1 b113
    refine q_lv (lv' := [(9, .int (i32 x98))]) [0] rfl ?_
    exact s_X2_leaveOutMultiples_122 g hR hX2 aX2_tried aX2_triedLeave aX2_numbers aX2_weights aX2_weightsAhead aX2_grains aX2_placeFrom aX2_first n_size n_parts n_wanted n_found n_limit r_n_limit Q hF n_tried n_triedLeave n_barred_108 x98 r_n_tried r_n_triedLeave rn_barred_108 rx98 h
  replace h := h.2 b113
  refine q_iload g 5 7 rfl dX2_leaveOutMultiples_116 ?_
  refine q_iload_n g 2 4 rfl dX2_leaveOutMultiples_118 ?_
  refine q_icmp_ne g (14) 133 r_l5 r_l2 (by decide) dX2_leaveOutMultiples_119 (fun b119 => ?_) (fun b119 => ?_)
  · replace h := h.1 b119
    refine q_iload g 5 7 rfl dX2_leaveOutMultiples_133 ?_
    refine q_iload_n g 1 3 rfl dX2_leaveOutMultiples_135 ?_
    obtain ⟨c136, h⟩ := h
    refine q_idiv g r_l5 r_l1 (ne_of_pos c136) dX2_leaveOutMultiples_136 ?_
    refine q_topi (r32_tdiv r_l5 c136) (fun x137 ex137 rx137 => ?_)
    replace h := h x137 ex137
    refine q_istore (lv' := [(5, .int (i32 x137)), (9, .int (i32 x98)), (7, .long (i64 k0)), (0, .ref hX2), (1, .int (i32 l1)), (2, .int (i32 l2)), (3, .int (i32 l3)), (4, .int (i32 l4)), (6, .int (i32 l6))]) g 5   (by decide) rfl dX2_leaveOutMultiples_137 ?_
    refine q_goto g (-103) 36 (by decide) dX2_leaveOutMultiples_139 ?_
    refine q_lv (lv' := [(0, .ref hX2), (1, .int (i32 l1)), (2, .int (i32 l2)), (3, .int (i32 l3)), (4, .int (i32 l4)), (5, .int (i32 x137))]) [3, 4, 5, 6, 7, 0] rfl ?_
    exact hK_36 n_tried n_triedLeave n_barred_108 l1 l2 l3 l4 x137 r_n_tried r_n_triedLeave rn_barred_108 r_l1 r_l2 r_l3 r_l4 rx137 h
  replace h := h.2 b119
  refine q_lv (lv' := [(9, .int (i32 x98))]) [0] rfl ?_
  exact s_X2_leaveOutMultiples_122 g hR hX2 aX2_tried aX2_triedLeave aX2_numbers aX2_weights aX2_weightsAhead aX2_grains aX2_placeFrom aX2_first n_size n_parts n_wanted n_found n_limit r_n_limit Q hF n_tried n_triedLeave n_barred_108 x98 r_n_tried r_n_triedLeave rn_barred_108 rx98 h
def wp_X2_leaveOutMultiples_142 (Q : Int → (Int → Int) → (Int → Int) → Int → Prop) (n_limit : Int) (n_tried : Int → Int) (n_triedLeave : Int → Int) (n_barred : Int) : Prop := Q 1 n_tried n_triedLeave n_barred
set_option maxHeartbeats 4000000 in
set_option maxRecDepth 100000 in
theorem s_X2_leaveOutMultiples_142 {X : Cx} (g : Gd X cX2_leaveOutMultiples RX2 (some .boolean) 10) (hR : X.R = rmL 4 0 0) (hX2 : Nat) (aX2_tried : Nat) (aX2_triedLeave : Nat) (aX2_numbers : Nat) (aX2_weights : Nat) (aX2_weightsAhead : Nat) (aX2_grains : Nat) (aX2_placeFrom : Nat) (aX2_first : Nat) (n_size : Int) (n_parts : Int) (n_wanted : Int) (n_found : Int) (n_limit : Int) (r_n_limit : r32 n_limit) (Q : Int → (Int → Int) → (Int → Int) → Int → Prop) (hF : FQ X 0 0 (po_X2_leaveOutMultiples X.cI X.cJ hX2 aX2_tried aX2_triedLeave aX2_numbers aX2_weights aX2_weightsAhead aX2_grains aX2_placeFrom aX2_first n_limit n_size n_parts n_wanted n_found Q)) : ∀ (n_tried : Int → Int) (n_triedLeave : Int → Int) (n_barred : Int), rr32 n_tried → rr64 n_triedLeave → r64 n_barred → wp_X2_leaveOutMultiples_142 Q n_limit n_tried n_triedLeave n_barred → Wat X 0 0 142 [] [] [(hX2, .inr (2, [.ref aX2_tried, .ref aX2_triedLeave, .ref aX2_numbers, .ref aX2_weights, .ref aX2_weightsAhead, .ref aX2_grains, .ref aX2_placeFrom, .ref aX2_first, .long (i64 n_barred), .int (i32 n_limit), .int (i32 n_size), .long (i64 n_parts), .long (i64 n_wanted), .int (i32 n_found)])), (aX2_tried, aI X.cI 5 n_tried), (aX2_triedLeave, aL X.cJ 5 n_triedLeave)] := by
  intro n_tried n_triedLeave n_barred r_n_tried r_n_triedLeave r_n_barred h
  rw [wp_X2_leaveOutMultiples_142] at h
  refine q_iconst g (1) dX2_leaveOutMultiples_142 ?_
  exact q_zret g hF (by decide) ⟨1, n_tried, n_triedLeave, n_barred, rfl, rfl, (r32_lit _ (by decide)), r_n_tried, r_n_triedLeave, r_n_barred, h⟩ dX2_leaveOutMultiples_143
def wp_X2_leaveOutMultiples_36 (Q : Int → (Int → Int) → (Int → Int) → Int → Prop) (n_limit : Int) : Nat → (Int → Int) → (Int → Int) → Int → Int → Int → Int → Int → Int → Prop
  | 0, _, _, _, _, _, _, _, _ => False
  | n + 1, n_tried, n_triedLeave, n_barred, l1, l2, l3, l4, l5 => ((l1 ≤ 1 → wp_X2_leaveOutMultiples_142 Q n_limit n_tried n_triedLeave n_barred) ∧
  (¬ (l1 ≤ 1) → ((l5 ≤ 1 → wp_X2_leaveOutMultiples_142 Q n_limit n_tried n_triedLeave n_barred) ∧
  (¬ (l5 ≤ 1) → wp_X2_gather (fun (x51 : Int) (n_tried_51 : Int → Int) (n_triedLeave_51 : Int → Int) => ((x51 ≤ 5 → ((¬ l5 = l2 → wp_X2_leaveOutMultiples_90 Q n_limit (wp_X2_leaveOutMultiples_36 Q n_limit n) n_tried_51 n_triedLeave_51 n_barred l1 l2 l3 l4 l5 x51 0) ∧
  (l5 = l2 → (0 < l1 ∧ wp_X7_inverse (fun (x79 : Int) => (r64 ((l3.tmod l1) * x79) ∧ 0 < l1 ∧ wp_X2_leaveOutMultiples_90 Q n_limit (wp_X2_leaveOutMultiples_36 Q n_limit n) n_tried_51 n_triedLeave_51 n_barred l1 l2 l3 l4 l5 x51 (Int.tmod ((l3.tmod l1) * x79) l1))) l4 l1)))) ∧
  (¬ (x51 ≤ 5) → Q 1 n_tried_51 n_triedLeave_51 n_barred))) n_tried n_triedLeave n_barred n_limit l5 l1))))
set_option maxHeartbeats 4000000 in
set_option maxRecDepth 100000 in
theorem s_X2_leaveOutMultiples_36 {X : Cx} (g : Gd X cX2_leaveOutMultiples RX2 (some .boolean) 10) (hR : X.R = rmL 4 0 0) (hX2 : Nat) (aX2_tried : Nat) (aX2_triedLeave : Nat) (aX2_numbers : Nat) (aX2_weights : Nat) (aX2_weightsAhead : Nat) (aX2_grains : Nat) (aX2_placeFrom : Nat) (aX2_first : Nat) (n_size : Int) (n_parts : Int) (n_wanted : Int) (n_found : Int) (n_limit : Int) (r_n_limit : r32 n_limit) (Q : Int → (Int → Int) → (Int → Int) → Int → Prop) (hF : FQ X 0 0 (po_X2_leaveOutMultiples X.cI X.cJ hX2 aX2_tried aX2_triedLeave aX2_numbers aX2_weights aX2_weightsAhead aX2_grains aX2_placeFrom aX2_first n_limit n_size n_parts n_wanted n_found Q)) : ∀ (n : Nat) (n_tried : Int → Int) (n_triedLeave : Int → Int) (n_barred : Int) (l1 : Int) (l2 : Int) (l3 : Int) (l4 : Int) (l5 : Int), rr32 n_tried → rr64 n_triedLeave → r64 n_barred → r32 l1 → r32 l2 → r32 l3 → r32 l4 → r32 l5 → wp_X2_leaveOutMultiples_36 Q n_limit n n_tried n_triedLeave n_barred l1 l2 l3 l4 l5 → Wat X 0 0 36 [(0, .ref hX2), (1, .int (i32 l1)), (2, .int (i32 l2)), (3, .int (i32 l3)), (4, .int (i32 l4)), (5, .int (i32 l5))] [] [(hX2, .inr (2, [.ref aX2_tried, .ref aX2_triedLeave, .ref aX2_numbers, .ref aX2_weights, .ref aX2_weightsAhead, .ref aX2_grains, .ref aX2_placeFrom, .ref aX2_first, .long (i64 n_barred), .int (i32 n_limit), .int (i32 n_size), .long (i64 n_parts), .long (i64 n_wanted), .int (i32 n_found)])), (aX2_tried, aI X.cI 5 n_tried), (aX2_triedLeave, aL X.cJ 5 n_triedLeave)] := by
  intro n
  induction n with
  | zero => intro n_tried n_triedLeave n_barred l1 l2 l3 l4 l5 r_n_tried r_n_triedLeave r_n_barred r_l1 r_l2 r_l3 r_l4 r_l5 h; exact False.elim h
  | succ n ih =>
    intro n_tried n_triedLeave n_barred l1 l2 l3 l4 l5 r_n_tried r_n_triedLeave r_n_barred r_l1 r_l2 r_l3 r_l4 r_l5 h
    rw [wp_X2_leaveOutMultiples_36] at h
    refine q_iload_n g 1 1 rfl dX2_leaveOutMultiples_36 ?_
    refine q_iconst g (1) dX2_leaveOutMultiples_37 ?_
    refine q_icmp_le g (104) 142 r_l1 (r32_lit _ (by decide)) (by decide) dX2_leaveOutMultiples_38 (fun b38 => ?_) (fun b38 => ?_)
    · replace h := h.1 b38
      refine q_lv (lv' := []) [] rfl ?_
      exact s_X2_leaveOutMultiples_142 g hR hX2 aX2_tried aX2_triedLeave aX2_numbers aX2_weights aX2_weightsAhead aX2_grains aX2_placeFrom aX2_first n_size n_parts n_wanted n_found n_limit r_n_limit Q hF n_tried n_triedLeave n_barred r_n_tried r_n_triedLeave r_n_barred h
    replace h := h.2 b38
    refine q_iload g 5 5 rfl dX2_leaveOutMultiples_41 ?_
    refine q_iconst g (1) dX2_leaveOutMultiples_43 ?_
    refine q_icmp_le g (98) 142 r_l5 (r32_lit _ (by decide)) (by decide) dX2_leaveOutMultiples_44 (fun b44 => ?_) (fun b44 => ?_)
    · replace h := h.1 b44
      refine q_lv (lv' := []) [] rfl ?_
      exact s_X2_leaveOutMultiples_142 g hR hX2 aX2_tried aX2_triedLeave aX2_numbers aX2_weights aX2_weightsAhead aX2_grains aX2_placeFrom aX2_first n_size n_parts n_wanted n_found n_limit r_n_limit Q hF n_tried n_triedLeave n_barred r_n_tried r_n_triedLeave r_n_barred h
    replace h := h.2 b44
    refine q_aload_n g 0 0 rfl dX2_leaveOutMultiples_47 ?_
    refine q_iload g 5 5 rfl dX2_leaveOutMultiples_48 ?_
    refine q_iload_n g 1 1 rfl dX2_leaveOutMultiples_50 ?_
    refine q_callV (lev := 3) (mc := 0) (ms := 0) g 94 (c_X2_gather X.l X.D X.cI X.cJ X.zt hX2 aX2_tried aX2_triedLeave aX2_numbers aX2_weights aX2_weightsAhead aX2_grains aX2_placeFrom aX2_first n_barred n_limit n_size n_parts n_wanted n_found n_tried n_triedLeave l5 l1 _ r_n_tried r_n_triedLeave r_n_barred r_n_limit r_l5 r_l1 h) (wr := []) [0, 1, 2] [] rfl rfl rfl (by decide) (by decide) (by decide) (ci := 2) rfl rfl rfl wM_X2_94 wI_X2_gather wS_X2_gather wZ_X2 wC_X2_gather 2 rfl (by decide +kernel) (by rw [hR]; exact ⟨by show 3 + 1 ≤ 4; omega, by show 8 + (5 + 11) + 100 * 3 ≤ 100 * 4; omega⟩) (by rw [hR]; exact ⟨Nat.le_refl _, Nat.le_refl _⟩) (Nat.le_of_ble_eq_true rfl) rfl dX2_leaveOutMultiples_51 (fun rv w1 hq => ?_)
    obtain ⟨x51, n_tried_51, n_triedLeave_51, rfl, rfl, rx51, rn_tried_51, rn_triedLeave_51, h⟩ := hq
    show Wat X 0 0 54 [(0, .ref hX2), (1, .int (i32 l1)), (2, .int (i32 l2)), (3, .int (i32 l3)), (4, .int (i32 l4)), (5, .int (i32 l5))] [.int (i32 x51)] [(hX2, .inr (2, [.ref aX2_tried, .ref aX2_triedLeave, .ref aX2_numbers, .ref aX2_weights, .ref aX2_weightsAhead, .ref aX2_grains, .ref aX2_placeFrom, .ref aX2_first, .long (i64 n_barred), .int (i32 n_limit), .int (i32 n_size), .long (i64 n_parts), .long (i64 n_wanted), .int (i32 n_found)])), (aX2_tried, aI X.cI 5 n_tried_51), (aX2_triedLeave, aL X.cJ 5 n_triedLeave_51)]
    refine q_istore (lv' := [(6, .int (i32 x51)), (0, .ref hX2), (1, .int (i32 l1)), (2, .int (i32 l2)), (3, .int (i32 l3)), (4, .int (i32 l4)), (5, .int (i32 l5))]) g 6   (by decide) rfl dX2_leaveOutMultiples_54 ?_
    refine q_iload g 6 0 rfl dX2_leaveOutMultiples_56 ?_
    refine q_iconst g (5) dX2_leaveOutMultiples_58 ?_
    refine q_icmp_le g (5) 64 rx51 (r32_lit _ (by decide)) (by decide) dX2_leaveOutMultiples_59 (fun b59 => ?_) (fun b59 => ?_)
    · replace h := h.1 b59
      refine q_iload g 5 6 rfl dX2_leaveOutMultiples_64 ?_
      refine q_iload_n g 2 3 rfl dX2_leaveOutMultiples_66 ?_
      refine q_icmp_ne g (22) 89 r_l5 r_l2 (by decide) dX2_leaveOutMultiples_67 (fun b67 => ?_) (fun b67 => ?_)
      · replace h := h.1 b67
        refine q_lconst g 0 0 rfl dX2_leaveOutMultiples_89 ?_
        refine q_lv (lv' := [(0, .ref hX2), (1, .int (i32 l1)), (2, .int (i32 l2)), (3, .int (i32 l3)), (4, .int (i32 l4)), (5, .int (i32 l5)), (6, .int (i32 x51))]) [1, 2, 3, 4, 5, 6, 0] rfl ?_
        exact s_X2_leaveOutMultiples_90 g hR hX2 aX2_tried aX2_triedLeave aX2_numbers aX2_weights aX2_weightsAhead aX2_grains aX2_placeFrom aX2_first n_size n_parts n_wanted n_found n_limit r_n_limit Q hF (wp_X2_leaveOutMultiples_36 Q n_limit n) (fun v0 v1 v2 v3 v4 v5 v6 v7 w0 w1 w2 w3 w4 w5 w6 w7 hh => ih v0 v1 v2 v3 v4 v5 v6 v7 w0 w1 w2 w3 w4 w5 w6 w7 hh) n_tried_51 n_triedLeave_51 n_barred l1 l2 l3 l4 l5 x51 0 rn_tried_51 rn_triedLeave_51 r_n_barred r_l1 r_l2 r_l3 r_l4 r_l5 rx51 (r64_lit _ (by decide)) h
      replace h := h.2 b67
      refine q_iload_n g 3 4 rfl dX2_leaveOutMultiples_70 ?_
      refine q_iload_n g 1 2 rfl dX2_leaveOutMultiples_71 ?_
      obtain ⟨c72, h⟩ := h
      refine q_irem g r_l3 r_l1 (ne_of_pos c72) dX2_leaveOutMultiples_72 ?_
      refine q_i2l g (r32_tmod r_l3 r_l1 (ne_of_pos c72)) dX2_leaveOutMultiples_73 ?_
      refine q_iload g 4 5 rfl dX2_leaveOutMultiples_74 ?_
      refine q_i2l g r_l4 dX2_leaveOutMultiples_76 ?_
      refine q_iload_n g 1 2 rfl dX2_leaveOutMultiples_77 ?_
      refine q_i2l g r_l1 dX2_leaveOutMultiples_78 ?_
      refine q_callSN (lev := 2) (mc := 0) (ms := 0) (As := [.long (i64 l4), .long (i64 l1)]) (host := RX7) g 97 (c_X7_inverse X.l X.D X.cI X.cJ X.zt l4 l1 _ (r32_64 r_l4) (r32_64 r_l1) h) (wr := [(hX2, .inr (2, [.ref aX2_tried, .ref aX2_triedLeave, .ref aX2_numbers, .ref aX2_weights, .ref aX2_weightsAhead, .ref aX2_grains, .ref aX2_placeFrom, .ref aX2_first, .long (i64 n_barred), .int (i32 n_limit), .int (i32 n_size), .long (i64 n_parts), .long (i64 n_wanted), .int (i32 n_found)])), (aX2_tried, aI X.cI 5 n_tried_51), (aX2_triedLeave, aL X.cJ 5 n_triedLeave_51)]) [] [0, 1, 2] rfl rfl rfl (by decide) (by decide) (by decide) (List.mem_of_getElem? (i := 5) rfl) wT_X7_inverse wZ_X7 wC_X7_inverse 2 rfl (by decide +kernel) (by rw [hR]; exact ⟨by show 2 + 1 ≤ 4; omega, by show 8 + (19 + 11) + 100 * 2 ≤ 100 * 4; omega⟩) (by rw [hR]; exact ⟨Nat.le_refl _, Nat.le_refl _⟩) (Nat.le_of_ble_eq_true rfl) rfl dX2_leaveOutMultiples_79 (fun rv w1 hq => ?_)
      obtain ⟨x79, rfl, rfl, rx79, h⟩ := hq
      show Wat X 0 0 82 [(6, .int (i32 x51)), (0, .ref hX2), (1, .int (i32 l1)), (2, .int (i32 l2)), (3, .int (i32 l3)), (4, .int (i32 l4)), (5, .int (i32 l5))] [.long (i64 x79), .long (i64 (l3.tmod l1))] [(hX2, .inr (2, [.ref aX2_tried, .ref aX2_triedLeave, .ref aX2_numbers, .ref aX2_weights, .ref aX2_weightsAhead, .ref aX2_grains, .ref aX2_placeFrom, .ref aX2_first, .long (i64 n_barred), .int (i32 n_limit), .int (i32 n_size), .long (i64 n_parts), .long (i64 n_wanted), .int (i32 n_found)])), (aX2_tried, aI X.cI 5 n_tried_51), (aX2_triedLeave, aL X.cJ 5 n_triedLeave_51)]
      obtain ⟨c82, h⟩ := h
      refine q_lmul g dX2_leaveOutMultiples_82 ?_
      refine q_iload_n g 1 2 rfl dX2_leaveOutMultiples_83 ?_
      refine q_i2l g r_l1 dX2_leaveOutMultiples_84 ?_
      obtain ⟨c85, h⟩ := h
      refine q_lrem g c82 (r32_64 r_l1) (ne_of_pos c85) dX2_leaveOutMultiples_85 ?_
      refine q_goto g (4) 90 (by decide) dX2_leaveOutMultiples_86 ?_
      refine q_lv (lv' := [(0, .ref hX2), (1, .int (i32 l1)), (2, .int (i32 l2)), (3, .int (i32 l3)), (4, .int (i32 l4)), (5, .int (i32 l5)), (6, .int (i32 x51))]) [1, 2, 3, 4, 5, 6, 0] rfl ?_
      exact s_X2_leaveOutMultiples_90 g hR hX2 aX2_tried aX2_triedLeave aX2_numbers aX2_weights aX2_weightsAhead aX2_grains aX2_placeFrom aX2_first n_size n_parts n_wanted n_found n_limit r_n_limit Q hF (wp_X2_leaveOutMultiples_36 Q n_limit n) (fun v0 v1 v2 v3 v4 v5 v6 v7 w0 w1 w2 w3 w4 w5 w6 w7 hh => ih v0 v1 v2 v3 v4 v5 v6 v7 w0 w1 w2 w3 w4 w5 w6 w7 hh) n_tried_51 n_triedLeave_51 n_barred l1 l2 l3 l4 l5 x51 (Int.tmod ((l3.tmod l1) * x79) l1) rn_tried_51 rn_triedLeave_51 r_n_barred r_l1 r_l2 r_l3 r_l4 r_l5 rx51 (r64_tmod c82 (r32_64 r_l1) (ne_of_pos c85)) h
    replace h := h.2 b59
    refine q_iconst g (1) dX2_leaveOutMultiples_62 ?_
    exact q_zret g hF (by decide) ⟨1, n_tried_51, n_triedLeave_51, n_barred, rfl, rfl, (r32_lit _ (by decide)), rn_tried_51, rn_triedLeave_51, r_n_barred, h⟩ dX2_leaveOutMultiples_63
def wp_X2_leaveOutMultiples_28 (Q : Int → (Int → Int) → (Int → Int) → Int → Prop) (n_limit : Int) (n_tried : Int → Int) (n_triedLeave : Int → Int) (n_barred : Int) (l1 : Int) (l2 : Int) (l3 : Int) (l4 : Int) (l5 : Int) : Prop := ((l2 ≤ l5 → (∃ n0 : Nat, wp_X2_leaveOutMultiples_36 Q n_limit n0 n_tried n_triedLeave n_barred l1 l2 l3 l4 l5)) ∧
  (¬ (l2 ≤ l5) → Q 0 n_tried n_triedLeave n_barred))
set_option maxHeartbeats 4000000 in
set_option maxRecDepth 100000 in
theorem s_X2_leaveOutMultiples_28 {X : Cx} (g : Gd X cX2_leaveOutMultiples RX2 (some .boolean) 10) (hR : X.R = rmL 4 0 0) (hX2 : Nat) (aX2_tried : Nat) (aX2_triedLeave : Nat) (aX2_numbers : Nat) (aX2_weights : Nat) (aX2_weightsAhead : Nat) (aX2_grains : Nat) (aX2_placeFrom : Nat) (aX2_first : Nat) (n_size : Int) (n_parts : Int) (n_wanted : Int) (n_found : Int) (n_limit : Int) (r_n_limit : r32 n_limit) (Q : Int → (Int → Int) → (Int → Int) → Int → Prop) (hF : FQ X 0 0 (po_X2_leaveOutMultiples X.cI X.cJ hX2 aX2_tried aX2_triedLeave aX2_numbers aX2_weights aX2_weightsAhead aX2_grains aX2_placeFrom aX2_first n_limit n_size n_parts n_wanted n_found Q)) : ∀ (n_tried : Int → Int) (n_triedLeave : Int → Int) (n_barred : Int) (l1 : Int) (l2 : Int) (l3 : Int) (l4 : Int) (l5 : Int), rr32 n_tried → rr64 n_triedLeave → r64 n_barred → r32 l1 → r32 l2 → r32 l3 → r32 l4 → r32 l5 → wp_X2_leaveOutMultiples_28 Q n_limit n_tried n_triedLeave n_barred l1 l2 l3 l4 l5 → Wat X 0 0 28 [(0, .ref hX2), (1, .int (i32 l1)), (2, .int (i32 l2)), (3, .int (i32 l3)), (4, .int (i32 l4)), (5, .int (i32 l5))] [] [(hX2, .inr (2, [.ref aX2_tried, .ref aX2_triedLeave, .ref aX2_numbers, .ref aX2_weights, .ref aX2_weightsAhead, .ref aX2_grains, .ref aX2_placeFrom, .ref aX2_first, .long (i64 n_barred), .int (i32 n_limit), .int (i32 n_size), .long (i64 n_parts), .long (i64 n_wanted), .int (i32 n_found)])), (aX2_tried, aI X.cI 5 n_tried), (aX2_triedLeave, aL X.cJ 5 n_triedLeave)] := by
  intro n_tried n_triedLeave n_barred l1 l2 l3 l4 l5 r_n_tried r_n_triedLeave r_n_barred r_l1 r_l2 r_l3 r_l4 r_l5 h
  rw [wp_X2_leaveOutMultiples_28] at h
  refine q_iload_n g 2 2 rfl dX2_leaveOutMultiples_28 ?_
  refine q_iload g 5 5 rfl dX2_leaveOutMultiples_29 ?_
  refine q_icmp_le g (5) 36 r_l2 r_l5 (by decide) dX2_leaveOutMultiples_31 (fun b31 => ?_) (fun b31 => ?_)
  · replace h := h.1 b31
    obtain ⟨n0, h⟩ := h
    exact s_X2_leaveOutMultiples_36 g hR hX2 aX2_tried aX2_triedLeave aX2_numbers aX2_weights aX2_weightsAhead aX2_grains aX2_placeFrom aX2_first n_size n_parts n_wanted n_found n_limit r_n_limit Q hF n0 n_tried n_triedLeave n_barred l1 l2 l3 l4 l5 r_n_tried r_n_triedLeave r_n_barred r_l1 r_l2 r_l3 r_l4 r_l5 h
  replace h := h.2 b31
  refine q_iconst g (0) dX2_leaveOutMultiples_34 ?_
  exact q_zret g hF (by decide) ⟨0, n_tried, n_triedLeave, n_barred, rfl, rfl, (r32_lit _ (by decide)), r_n_tried, r_n_triedLeave, r_n_barred, h⟩ dX2_leaveOutMultiples_35
def wp_X2_leaveOutMultiples_3 (Q : Int → (Int → Int) → (Int → Int) → Int → Prop) (n_limit : Int) : Nat → (Int → Int) → (Int → Int) → Int → Int → Int → Int → Int → Int → Prop
  | 0, _, _, _, _, _, _, _, _ => False
  | n + 1, n_tried, n_triedLeave, n_barred, l1, l2, l3, l4, l5 => ((l1 ≤ 1 → wp_X2_leaveOutMultiples_28 Q n_limit n_tried n_triedLeave n_barred l1 l2 l3 l4 l5) ∧
  (¬ (l1 ≤ 1) → (0 < l1 ∧ (((n_limit.tdiv l1) < l5 → wp_X2_leaveOutMultiples_28 Q n_limit n_tried n_triedLeave n_barred l1 l2 l3 l4 l5) ∧
  (¬ ((n_limit.tdiv l1) < l5) → (r32 (l5 * l1) ∧ ∀ x23 : Int, x23 = (l5 * l1) → wp_X2_leaveOutMultiples_3 Q n_limit n n_tried n_triedLeave n_barred l1 l2 l3 l4 x23))))))
set_option maxHeartbeats 4000000 in
set_option maxRecDepth 100000 in
theorem s_X2_leaveOutMultiples_3 {X : Cx} (g : Gd X cX2_leaveOutMultiples RX2 (some .boolean) 10) (hR : X.R = rmL 4 0 0) (hX2 : Nat) (aX2_tried : Nat) (aX2_triedLeave : Nat) (aX2_numbers : Nat) (aX2_weights : Nat) (aX2_weightsAhead : Nat) (aX2_grains : Nat) (aX2_placeFrom : Nat) (aX2_first : Nat) (n_size : Int) (n_parts : Int) (n_wanted : Int) (n_found : Int) (n_limit : Int) (r_n_limit : r32 n_limit) (Q : Int → (Int → Int) → (Int → Int) → Int → Prop) (hF : FQ X 0 0 (po_X2_leaveOutMultiples X.cI X.cJ hX2 aX2_tried aX2_triedLeave aX2_numbers aX2_weights aX2_weightsAhead aX2_grains aX2_placeFrom aX2_first n_limit n_size n_parts n_wanted n_found Q)) : ∀ (n : Nat) (n_tried : Int → Int) (n_triedLeave : Int → Int) (n_barred : Int) (l1 : Int) (l2 : Int) (l3 : Int) (l4 : Int) (l5 : Int), rr32 n_tried → rr64 n_triedLeave → r64 n_barred → r32 l1 → r32 l2 → r32 l3 → r32 l4 → r32 l5 → wp_X2_leaveOutMultiples_3 Q n_limit n n_tried n_triedLeave n_barred l1 l2 l3 l4 l5 → Wat X 0 0 3 [(0, .ref hX2), (1, .int (i32 l1)), (2, .int (i32 l2)), (3, .int (i32 l3)), (4, .int (i32 l4)), (5, .int (i32 l5))] [] [(hX2, .inr (2, [.ref aX2_tried, .ref aX2_triedLeave, .ref aX2_numbers, .ref aX2_weights, .ref aX2_weightsAhead, .ref aX2_grains, .ref aX2_placeFrom, .ref aX2_first, .long (i64 n_barred), .int (i32 n_limit), .int (i32 n_size), .long (i64 n_parts), .long (i64 n_wanted), .int (i32 n_found)])), (aX2_tried, aI X.cI 5 n_tried), (aX2_triedLeave, aL X.cJ 5 n_triedLeave)] := by
  intro n
  induction n with
  | zero => intro n_tried n_triedLeave n_barred l1 l2 l3 l4 l5 r_n_tried r_n_triedLeave r_n_barred r_l1 r_l2 r_l3 r_l4 r_l5 h; exact False.elim h
  | succ n ih =>
    intro n_tried n_triedLeave n_barred l1 l2 l3 l4 l5 r_n_tried r_n_triedLeave r_n_barred r_l1 r_l2 r_l3 r_l4 r_l5 h
    rw [wp_X2_leaveOutMultiples_3] at h
    refine q_iload_n g 1 1 rfl dX2_leaveOutMultiples_3 ?_
    refine q_iconst g (1) dX2_leaveOutMultiples_4 ?_
    refine q_icmp_le g (23) 28 r_l1 (r32_lit _ (by decide)) (by decide) dX2_leaveOutMultiples_5 (fun b5 => ?_) (fun b5 => ?_)
    · replace h := h.1 b5
      exact s_X2_leaveOutMultiples_28 g hR hX2 aX2_tried aX2_triedLeave aX2_numbers aX2_weights aX2_weightsAhead aX2_grains aX2_placeFrom aX2_first n_size n_parts n_wanted n_found n_limit r_n_limit Q hF n_tried n_triedLeave n_barred l1 l2 l3 l4 l5 r_n_tried r_n_triedLeave r_n_barred r_l1 r_l2 r_l3 r_l4 r_l5 h
    replace h := h.2 b5
    refine q_iload g 5 5 rfl dX2_leaveOutMultiples_8 ?_
    refine q_aload_n g 0 0 rfl dX2_leaveOutMultiples_10 ?_
    refine q_get (C := RX2) (T := TX2) (N := 14) g 45 inX2 0 9 rfl rfl (by decide) wF_X2_45 rfl dX2_leaveOutMultiples_11 ?_
    refine q_iload_n g 1 1 rfl dX2_leaveOutMultiples_14 ?_
    obtain ⟨c15, h⟩ := h
    refine q_idiv g r_n_limit r_l1 (ne_of_pos c15) dX2_leaveOutMultiples_15 ?_
    refine q_icmp_gt g (12) 28 r_l5 (r32_tdiv r_n_limit c15) (by decide) dX2_leaveOutMultiples_16 (fun b16 => ?_) (fun b16 => ?_)
    · replace h := h.1 b16
      exact s_X2_leaveOutMultiples_28 g hR hX2 aX2_tried aX2_triedLeave aX2_numbers aX2_weights aX2_weightsAhead aX2_grains aX2_placeFrom aX2_first n_size n_parts n_wanted n_found n_limit r_n_limit Q hF n_tried n_triedLeave n_barred l1 l2 l3 l4 l5 r_n_tried r_n_triedLeave r_n_barred r_l1 r_l2 r_l3 r_l4 r_l5 h
    replace h := h.2 b16
    refine q_iload g 5 5 rfl dX2_leaveOutMultiples_19 ?_
    refine q_iload_n g 1 1 rfl dX2_leaveOutMultiples_21 ?_
    obtain ⟨c22, h⟩ := h
    refine q_imul g dX2_leaveOutMultiples_22 ?_
    refine q_topi c22 (fun x23 ex23 rx23 => ?_)
    replace h := h x23 ex23
    refine q_istore (lv' := [(5, .int (i32 x23)), (0, .ref hX2), (1, .int (i32 l1)), (2, .int (i32 l2)), (3, .int (i32 l3)), (4, .int (i32 l4))]) g 5   (by decide) rfl dX2_leaveOutMultiples_23 ?_
    refine q_goto g (-22) 3 (by decide) dX2_leaveOutMultiples_25 ?_
    refine q_lv (lv' := [(0, .ref hX2), (1, .int (i32 l1)), (2, .int (i32 l2)), (3, .int (i32 l3)), (4, .int (i32 l4)), (5, .int (i32 x23))]) [1, 2, 3, 4, 5, 0] rfl ?_
    exact ih n_tried n_triedLeave n_barred l1 l2 l3 l4 x23 r_n_tried r_n_triedLeave r_n_barred r_l1 r_l2 r_l3 r_l4 rx23 h
def wp_X2_leaveOutMultiples (Q : Int → (Int → Int) → (Int → Int) → Int → Prop) (n_tried : Int → Int) (n_triedLeave : Int → Int) (n_barred : Int) (n_limit : Int) (l1 : Int) (l2 : Int) (l3 : Int) (l4 : Int) : Prop := (∃ n0 : Nat, wp_X2_leaveOutMultiples_3 Q n_limit n0 n_tried n_triedLeave n_barred l1 l2 l3 l4 1)
set_option maxHeartbeats 4000000 in
set_option maxRecDepth 100000 in
theorem c_X2_leaveOutMultiples (l : Launch) (D : va_G) (cI cJ : ClassId) (zt : Nat) (hX2 : Nat) (aX2_tried : Nat) (aX2_triedLeave : Nat) (aX2_numbers : Nat) (aX2_weights : Nat) (aX2_weightsAhead : Nat) (aX2_grains : Nat) (aX2_placeFrom : Nat) (aX2_first : Nat) (n_barred : Int) (n_limit : Int) (n_size : Int) (n_parts : Int) (n_wanted : Int) (n_found : Int) (n_tried : Int → Int) (n_triedLeave : Int → Int) (l1 : Int) (l2 : Int) (l3 : Int) (l4 : Int) (Q : Int → (Int → Int) → (Int → Int) → Int → Prop) (r_n_tried : rr32 n_tried) (r_n_triedLeave : rr64 n_triedLeave) (r_n_barred : r64 n_barred) (r_n_limit : r32 n_limit) (r_l1 : r32 l1) (r_l2 : r32 l2) (r_l3 : r32 l3) (r_l4 : r32 l4) (h : wp_X2_leaveOutMultiples Q n_tried n_triedLeave n_barred n_limit l1 l2 l3 l4) : Ct l D cI cJ zt yX2_leaveOutMultiples cX2_leaveOutMultiples 10 (some .boolean) 4 0 0 [.ref hX2, .int (i32 l1), .int (i32 l2), .int (i32 l3), .int (i32 l4)] [(hX2, .inr (2, [.ref aX2_tried, .ref aX2_triedLeave, .ref aX2_numbers, .ref aX2_weights, .ref aX2_weightsAhead, .ref aX2_grains, .ref aX2_placeFrom, .ref aX2_first, .long (i64 n_barred), .int (i32 n_limit), .int (i32 n_size), .long (i64 n_parts), .long (i64 n_wanted), .int (i32 n_found)])), (aX2_tried, aI cI 5 n_tried), (aX2_triedLeave, aL cJ 5 n_triedLeave)] (po_X2_leaveOutMultiples cI cJ hX2 aX2_tried aX2_triedLeave aX2_numbers aX2_weights aX2_weightsAhead aX2_grains aX2_placeFrom aX2_first n_limit n_size n_parts n_wanted n_found Q) := by
  refine ct_of (by decide +kernel) (Nat.le_of_ble_eq_true rfl) (fun X hl hDD hcI hcJ hzt hR hF hnm g => ?_)
  subst hl; subst hDD; subst hcI; subst hcJ; subst hzt
  show Wat X 0 0 0 [(0, .ref hX2), (1, .int (i32 l1)), (2, .int (i32 l2)), (3, .int (i32 l3)), (4, .int (i32 l4))] [] [(hX2, .inr (2, [.ref aX2_tried, .ref aX2_triedLeave, .ref aX2_numbers, .ref aX2_weights, .ref aX2_weightsAhead, .ref aX2_grains, .ref aX2_placeFrom, .ref aX2_first, .long (i64 n_barred), .int (i32 n_limit), .int (i32 n_size), .long (i64 n_parts), .long (i64 n_wanted), .int (i32 n_found)])), (aX2_tried, aI X.cI 5 n_tried), (aX2_triedLeave, aL X.cJ 5 n_triedLeave)]
  replace g : Gd X cX2_leaveOutMultiples RX2 (some .boolean) 10 := g
  rw [wp_X2_leaveOutMultiples] at h
  refine q_iconst g (1) dX2_leaveOutMultiples_0 ?_
  refine q_istore (lv' := [(5, .int (i32 1)), (0, .ref hX2), (1, .int (i32 l1)), (2, .int (i32 l2)), (3, .int (i32 l3)), (4, .int (i32 l4))]) g 5   (by decide) rfl dX2_leaveOutMultiples_1 ?_
  refine q_lv (lv' := [(0, .ref hX2), (1, .int (i32 l1)), (2, .int (i32 l2)), (3, .int (i32 l3)), (4, .int (i32 l4)), (5, .int (i32 1))]) [1, 2, 3, 4, 5, 0] rfl ?_
  obtain ⟨n0, h⟩ := h
  exact s_X2_leaveOutMultiples_3 g hR hX2 aX2_tried aX2_triedLeave aX2_numbers aX2_weights aX2_weightsAhead aX2_grains aX2_placeFrom aX2_first n_size n_parts n_wanted n_found n_limit r_n_limit Q hF n0 n_tried n_triedLeave n_barred l1 l2 l3 l4 1 r_n_tried r_n_triedLeave r_n_barred r_l1 r_l2 r_l3 r_l4 (r32_lit _ (by decide)) h
theorem dX2_leaveOutHopeless_0 : decode cX2_leaveOutHopeless 0 = .ok (.iload_n 2, 1) := by decide +kernel
theorem dX2_leaveOutHopeless_1 : decode cX2_leaveOutHopeless 1 = .ok (.istore_n 3, 1) := by decide +kernel
theorem dX2_leaveOutHopeless_2 : decode cX2_leaveOutHopeless 2 = .ok (.iconst 0, 1) := by decide +kernel
theorem dX2_leaveOutHopeless_3 : decode cX2_leaveOutHopeless 3 = .ok (.istore 4, 2) := by decide +kernel
theorem dX2_leaveOutHopeless_5 : decode cX2_leaveOutHopeless 5 = .ok (.iload 4, 2) := by decide +kernel
theorem dX2_leaveOutHopeless_7 : decode cX2_leaveOutHopeless 7 = .ok (.getstatic 84, 3) := by decide +kernel
theorem dX2_leaveOutHopeless_10 : decode cX2_leaveOutHopeless 10 = .ok (.arraylength, 1) := by decide +kernel
theorem dX2_leaveOutHopeless_11 : decode cX2_leaveOutHopeless 11 = .ok (.if_icmp .ge 57, 3) := by decide +kernel
theorem dX2_leaveOutHopeless_14 : decode cX2_leaveOutHopeless 14 = .ok (.getstatic 84, 3) := by decide +kernel
theorem dX2_leaveOutHopeless_17 : decode cX2_leaveOutHopeless 17 = .ok (.iload 4, 2) := by decide +kernel
theorem dX2_leaveOutHopeless_19 : decode cX2_leaveOutHopeless 19 = .ok (.iaload, 1) := by decide +kernel
theorem dX2_leaveOutHopeless_20 : decode cX2_leaveOutHopeless 20 = .ok (.istore 5, 2) := by decide +kernel
theorem dX2_leaveOutHopeless_22 : decode cX2_leaveOutHopeless 22 = .ok (.iload 5, 2) := by decide +kernel
theorem dX2_leaveOutHopeless_24 : decode cX2_leaveOutHopeless 24 = .ok (.aload_n 0, 1) := by decide +kernel
theorem dX2_leaveOutHopeless_25 : decode cX2_leaveOutHopeless 25 = .ok (.getfield 45, 3) := by decide +kernel
theorem dX2_leaveOutHopeless_28 : decode cX2_leaveOutHopeless 28 = .ok (.if_icmp .gt 34, 3) := by decide +kernel
theorem dX2_leaveOutHopeless_31 : decode cX2_leaveOutHopeless 31 = .ok (.iload_n 2, 1) := by decide +kernel
theorem dX2_leaveOutHopeless_32 : decode cX2_leaveOutHopeless 32 = .ok (.iload 5, 2) := by decide +kernel
theorem dX2_leaveOutHopeless_34 : decode cX2_leaveOutHopeless 34 = .ok (.invokestatic 87, 3) := by decide +kernel
theorem dX2_leaveOutHopeless_37 : decode cX2_leaveOutHopeless 37 = .ok (.istore 6, 2) := by decide +kernel
theorem dX2_leaveOutHopeless_39 : decode cX2_leaveOutHopeless 39 = .ok (.iload_n 3, 1) := by decide +kernel
theorem dX2_leaveOutHopeless_40 : decode cX2_leaveOutHopeless 40 = .ok (.iload 6, 2) := by decide +kernel
theorem dX2_leaveOutHopeless_42 : decode cX2_leaveOutHopeless 42 = .ok (.idiv, 1) := by decide +kernel
theorem dX2_leaveOutHopeless_43 : decode cX2_leaveOutHopeless 43 = .ok (.istore_n 3, 1) := by decide +kernel
theorem dX2_leaveOutHopeless_44 : decode cX2_leaveOutHopeless 44 = .ok (.aload_n 0, 1) := by decide +kernel
theorem dX2_leaveOutHopeless_45 : decode cX2_leaveOutHopeless 45 = .ok (.iload 5, 2) := by decide +kernel
theorem dX2_leaveOutHopeless_47 : decode cX2_leaveOutHopeless 47 = .ok (.iload 6, 2) := by decide +kernel
theorem dX2_leaveOutHopeless_49 : decode cX2_leaveOutHopeless 49 = .ok (.iload_n 1, 1) := by decide +kernel
theorem dX2_leaveOutHopeless_50 : decode cX2_leaveOutHopeless 50 = .ok (.iload_n 2, 1) := by decide +kernel
theorem dX2_leaveOutHopeless_51 : decode cX2_leaveOutHopeless 51 = .ok (.iload 6, 2) := by decide +kernel
theorem dX2_leaveOutHopeless_53 : decode cX2_leaveOutHopeless 53 = .ok (.idiv, 1) := by decide +kernel
theorem dX2_leaveOutHopeless_54 : decode cX2_leaveOutHopeless 54 = .ok (.invokevirtual 90, 3) := by decide +kernel
theorem dX2_leaveOutHopeless_57 : decode cX2_leaveOutHopeless 57 = .ok (.ifCond .ne 5, 3) := by decide +kernel
theorem dX2_leaveOutHopeless_60 : decode cX2_leaveOutHopeless 60 = .ok (.iconst 0, 1) := by decide +kernel
theorem dX2_leaveOutHopeless_61 : decode cX2_leaveOutHopeless 61 = .ok (.ireturn, 1) := by decide +kernel
theorem dX2_leaveOutHopeless_62 : decode cX2_leaveOutHopeless 62 = .ok (.iinc 4 1, 3) := by decide +kernel
theorem dX2_leaveOutHopeless_65 : decode cX2_leaveOutHopeless 65 = .ok (.goto (-60), 3) := by decide +kernel
theorem dX2_leaveOutHopeless_68 : decode cX2_leaveOutHopeless 68 = .ok (.iload_n 3, 1) := by decide +kernel
theorem dX2_leaveOutHopeless_69 : decode cX2_leaveOutHopeless 69 = .ok (.iconst 1, 1) := by decide +kernel
theorem dX2_leaveOutHopeless_70 : decode cX2_leaveOutHopeless 70 = .ok (.if_icmp .ne 7, 3) := by decide +kernel
theorem dX2_leaveOutHopeless_73 : decode cX2_leaveOutHopeless 73 = .ok (.iconst 1, 1) := by decide +kernel
theorem dX2_leaveOutHopeless_74 : decode cX2_leaveOutHopeless 74 = .ok (.goto 4, 3) := by decide +kernel
theorem dX2_leaveOutHopeless_77 : decode cX2_leaveOutHopeless 77 = .ok (.iconst 0, 1) := by decide +kernel
theorem dX2_leaveOutHopeless_78 : decode cX2_leaveOutHopeless 78 = .ok (.ireturn, 1) := by decide +kernel
abbrev po_X2_leaveOutHopeless (cI cJ : ClassId) (hX2 : Nat) (aX2_tried : Nat) (aX2_triedLeave : Nat) (aX2_numbers : Nat) (aX2_weights : Nat) (aX2_weightsAhead : Nat) (aX2_grains : Nat) (aX2_placeFrom : Nat) (aX2_first : Nat) (n_limit : Int) (n_size : Int) (n_parts : Int) (n_wanted : Int) (n_found : Int) (Q : Int → (Int → Int) → (Int → Int) → Int → Prop) : Option Value → va_W → Prop := fun rv w1 => ∃ (r0 : Int) (n_tried : Int → Int) (n_triedLeave : Int → Int) (n_barred : Int), rv = some (.int (i32 r0)) ∧ w1 = [(hX2, .inr (2, [.ref aX2_tried, .ref aX2_triedLeave, .ref aX2_numbers, .ref aX2_weights, .ref aX2_weightsAhead, .ref aX2_grains, .ref aX2_placeFrom, .ref aX2_first, .long (i64 n_barred), .int (i32 n_limit), .int (i32 n_size), .long (i64 n_parts), .long (i64 n_wanted), .int (i32 n_found)])), (aX2_tried, aI cI 5 n_tried), (aX2_triedLeave, aL cJ 5 n_triedLeave)] ∧ r32 r0 ∧ rr32 n_tried ∧ rr64 n_triedLeave ∧ r64 n_barred ∧ Q r0 n_tried n_triedLeave n_barred
def wp_X2_leaveOutHopeless_62 (Q : Int → (Int → Int) → (Int → Int) → Int → Prop) (n_limit : Int) (K_5 : (Int → Int) → (Int → Int) → Int → Int → Int → Int → Int → Prop) (n_tried : Int → Int) (n_triedLeave : Int → Int) (n_barred : Int) (l1 : Int) (l2 : Int) (l3 : Int) (l4 : Int) : Prop := (r32 (l4 + 1) ∧ K_5 n_tried n_triedLeave n_barred l1 l2 l3 (l4 + 1))
set_option maxHeartbeats 4000000 in
set_option maxRecDepth 100000 in
theorem s_X2_leaveOutHopeless_62 {X : Cx} (g : Gd X cX2_leaveOutHopeless RX2 (some .boolean) 7) (hR : X.R = rmL 5 0 0) (hX2 : Nat) (aX2_tried : Nat) (aX2_triedLeave : Nat) (aX2_numbers : Nat) (aX2_weights : Nat) (aX2_weightsAhead : Nat) (aX2_grains : Nat) (aX2_placeFrom : Nat) (aX2_first : Nat) (n_size : Int) (n_parts : Int) (n_wanted : Int) (n_found : Int) (n_limit : Int) (r_n_limit : r32 n_limit) (Q : Int → (Int → Int) → (Int → Int) → Int → Prop) (hF : FQ X 0 0 (po_X2_leaveOutHopeless X.cI X.cJ hX2 aX2_tried aX2_triedLeave aX2_numbers aX2_weights aX2_weightsAhead aX2_grains aX2_placeFrom aX2_first n_limit n_size n_parts n_wanted n_found Q)) (K_5 : (Int → Int) → (Int → Int) → Int → Int → Int → Int → Int → Prop) (hK_5 : ∀ (n_tried : Int → Int) (n_triedLeave : Int → Int) (n_barred : Int) (l1 : Int) (l2 : Int) (l3 : Int) (l4 : Int), rr32 n_tried → rr64 n_triedLeave → r64 n_barred → r32 l1 → r32 l2 → r32 l3 → r32 l4 → K_5 n_tried n_triedLeave n_barred l1 l2 l3 l4 → Wat X 0 0 5 [(0, .ref hX2), (1, .int (i32 l1)), (2, .int (i32 l2)), (3, .int (i32 l3)), (4, .int (i32 l4))] [] [(hX2, .inr (2, [.ref aX2_tried, .ref aX2_triedLeave, .ref aX2_numbers, .ref aX2_weights, .ref aX2_weightsAhead, .ref aX2_grains, .ref aX2_placeFrom, .ref aX2_first, .long (i64 n_barred), .int (i32 n_limit), .int (i32 n_size), .long (i64 n_parts), .long (i64 n_wanted), .int (i32 n_found)])), (aX2_tried, aI X.cI 5 n_tried), (aX2_triedLeave, aL X.cJ 5 n_triedLeave)]) : ∀ (n_tried : Int → Int) (n_triedLeave : Int → Int) (n_barred : Int) (l1 : Int) (l2 : Int) (l3 : Int) (l4 : Int), rr32 n_tried → rr64 n_triedLeave → r64 n_barred → r32 l1 → r32 l2 → r32 l3 → r32 l4 → wp_X2_leaveOutHopeless_62 Q n_limit K_5 n_tried n_triedLeave n_barred l1 l2 l3 l4 → Wat X 0 0 62 [(0, .ref hX2), (1, .int (i32 l1)), (2, .int (i32 l2)), (3, .int (i32 l3)), (4, .int (i32 l4))] [] [(hX2, .inr (2, [.ref aX2_tried, .ref aX2_triedLeave, .ref aX2_numbers, .ref aX2_weights, .ref aX2_weightsAhead, .ref aX2_grains, .ref aX2_placeFrom, .ref aX2_first, .long (i64 n_barred), .int (i32 n_limit), .int (i32 n_size), .long (i64 n_parts), .long (i64 n_wanted), .int (i32 n_found)])), (aX2_tried, aI X.cI 5 n_tried), (aX2_triedLeave, aL X.cJ 5 n_triedLeave)] := by
  intro n_tried n_triedLeave n_barred l1 l2 l3 l4 r_n_tried r_n_triedLeave r_n_barred r_l1 r_l2 r_l3 r_l4 h
  rw [wp_X2_leaveOutHopeless_62] at h
  obtain ⟨c62, h⟩ := h
  refine q_iinc (lv' := [(4, .int (i32 (l4 + 1))), (0, .ref hX2), (1, .int (i32 l1)), (2, .int (i32 l2)), (3, .int (i32 l3))]) g 4 4 1 (by decide) rfl rfl dX2_leaveOutHopeless_62 ?_
  refine q_goto g (-60) 5 (by decide) dX2_leaveOutHopeless_65 ?_
  refine q_lv (lv' := [(0, .ref hX2), (1, .int (i32 l1)), (2, .int (i32 l2)), (3, .int (i32 l3)), (4, .int (i32 (l4 + 1)))]) [1, 2, 3, 4, 0] rfl ?_
  exact hK_5 n_tried n_triedLeave n_barred l1 l2 l3 (l4 + 1) r_n_tried r_n_triedLeave r_n_barred r_l1 r_l2 r_l3 c62 h
def wp_X2_leaveOutHopeless_78 (Q : Int → (Int → Int) → (Int → Int) → Int → Prop) (n_limit : Int) (n_tried : Int → Int) (n_triedLeave : Int → Int) (n_barred : Int) (k0 : Int) : Prop := ((k0 = 0 ∨ k0 = 1) ∧ Q k0 n_tried n_triedLeave n_barred)
set_option maxHeartbeats 4000000 in
set_option maxRecDepth 100000 in
theorem s_X2_leaveOutHopeless_78 {X : Cx} (g : Gd X cX2_leaveOutHopeless RX2 (some .boolean) 7) (hR : X.R = rmL 5 0 0) (hX2 : Nat) (aX2_tried : Nat) (aX2_triedLeave : Nat) (aX2_numbers : Nat) (aX2_weights : Nat) (aX2_weightsAhead : Nat) (aX2_grains : Nat) (aX2_placeFrom : Nat) (aX2_first : Nat) (n_size : Int) (n_parts : Int) (n_wanted : Int) (n_found : Int) (n_limit : Int) (r_n_limit : r32 n_limit) (Q : Int → (Int → Int) → (Int → Int) → Int → Prop) (hF : FQ X 0 0 (po_X2_leaveOutHopeless X.cI X.cJ hX2 aX2_tried aX2_triedLeave aX2_numbers aX2_weights aX2_weightsAhead aX2_grains aX2_placeFrom aX2_first n_limit n_size n_parts n_wanted n_found Q)) : ∀ (n_tried : Int → Int) (n_triedLeave : Int → Int) (n_barred : Int) (k0 : Int), rr32 n_tried → rr64 n_triedLeave → r64 n_barred → r32 k0 → wp_X2_leaveOutHopeless_78 Q n_limit n_tried n_triedLeave n_barred k0 → Wat X 0 0 78 [] [.int (i32 k0)] [(hX2, .inr (2, [.ref aX2_tried, .ref aX2_triedLeave, .ref aX2_numbers, .ref aX2_weights, .ref aX2_weightsAhead, .ref aX2_grains, .ref aX2_placeFrom, .ref aX2_first, .long (i64 n_barred), .int (i32 n_limit), .int (i32 n_size), .long (i64 n_parts), .long (i64 n_wanted), .int (i32 n_found)])), (aX2_tried, aI X.cI 5 n_tried), (aX2_triedLeave, aL X.cJ 5 n_triedLeave)] := by
  intro n_tried n_triedLeave n_barred k0 r_n_tried r_n_triedLeave r_n_barred r_k0 h
  rw [wp_X2_leaveOutHopeless_78] at h
  obtain ⟨z78, h⟩ := h
  exact q_zret g hF z78 ⟨k0, n_tried, n_triedLeave, n_barred, rfl, rfl, r_k0, r_n_tried, r_n_triedLeave, r_n_barred, h⟩ dX2_leaveOutHopeless_78
def wp_X2_leaveOutHopeless_5 (Q : Int → (Int → Int) → (Int → Int) → Int → Prop) (n_limit : Int) : Nat → (Int → Int) → (Int → Int) → Int → Int → Int → Int → Int → Prop
  | 0, _, _, _, _, _, _, _ => False
  | n + 1, n_tried, n_triedLeave, n_barred, l1, l2, l3, l4 => ((17 ≤ l4 → ((¬ l3 = 1 → wp_X2_leaveOutHopeless_78 Q n_limit n_tried n_triedLeave n_barred 0) ∧
  (l3 = 1 → wp_X2_leaveOutHopeless_78 Q n_limit n_tried n_triedLeave n_barred 1))) ∧
  (¬ (17 ≤ l4) → (0 ≤ l4 ∧ l4 < 17 ∧ ∀ x20 : Int, x20 = (prmF l4) → ((n_limit < x20 → wp_X2_leaveOutHopeless_62 Q n_limit (wp_X2_leaveOutHopeless_5 Q n_limit n) n_tried n_triedLeave n_barred l1 l2 l3 l4) ∧
  (¬ (n_limit < x20) → wp_X2_powerIn (fun (x34 : Int) => (0 < x34 ∧ ∀ x43 : Int, x43 = (l3.tdiv x34) → 0 < x34 ∧ wp_X2_leaveOutMultiples (fun (x54 : Int) (n_tried_54 : Int → Int) (n_triedLeave_54 : Int → Int) (n_barred_54 : Int) => ((¬ x54 = 0 → wp_X2_leaveOutHopeless_62 Q n_limit (wp_X2_leaveOutHopeless_5 Q n_limit n) n_tried_54 n_triedLeave_54 n_barred_54 l1 l2 x43 l4) ∧
  (x54 = 0 → Q 0 n_tried_54 n_triedLeave_54 n_barred_54))) n_tried n_triedLeave n_barred n_limit x20 x34 l1 (l2.tdiv x34))) l2 x20)))))
set_option maxHeartbeats 4000000 in
set_option maxRecDepth 100000 in
theorem s_X2_leaveOutHopeless_5 {X : Cx} (g : Gd X cX2_leaveOutHopeless RX2 (some .boolean) 7) (hR : X.R = rmL 5 0 0) (hX2 : Nat) (aX2_tried : Nat) (aX2_triedLeave : Nat) (aX2_numbers : Nat) (aX2_weights : Nat) (aX2_weightsAhead : Nat) (aX2_grains : Nat) (aX2_placeFrom : Nat) (aX2_first : Nat) (n_size : Int) (n_parts : Int) (n_wanted : Int) (n_found : Int) (n_limit : Int) (r_n_limit : r32 n_limit) (Q : Int → (Int → Int) → (Int → Int) → Int → Prop) (hF : FQ X 0 0 (po_X2_leaveOutHopeless X.cI X.cJ hX2 aX2_tried aX2_triedLeave aX2_numbers aX2_weights aX2_weightsAhead aX2_grains aX2_placeFrom aX2_first n_limit n_size n_parts n_wanted n_found Q)) : ∀ (n : Nat) (n_tried : Int → Int) (n_triedLeave : Int → Int) (n_barred : Int) (l1 : Int) (l2 : Int) (l3 : Int) (l4 : Int), rr32 n_tried → rr64 n_triedLeave → r64 n_barred → r32 l1 → r32 l2 → r32 l3 → r32 l4 → wp_X2_leaveOutHopeless_5 Q n_limit n n_tried n_triedLeave n_barred l1 l2 l3 l4 → Wat X 0 0 5 [(0, .ref hX2), (1, .int (i32 l1)), (2, .int (i32 l2)), (3, .int (i32 l3)), (4, .int (i32 l4))] [] [(hX2, .inr (2, [.ref aX2_tried, .ref aX2_triedLeave, .ref aX2_numbers, .ref aX2_weights, .ref aX2_weightsAhead, .ref aX2_grains, .ref aX2_placeFrom, .ref aX2_first, .long (i64 n_barred), .int (i32 n_limit), .int (i32 n_size), .long (i64 n_parts), .long (i64 n_wanted), .int (i32 n_found)])), (aX2_tried, aI X.cI 5 n_tried), (aX2_triedLeave, aL X.cJ 5 n_triedLeave)] := by
  intro n
  induction n with
  | zero => intro n_tried n_triedLeave n_barred l1 l2 l3 l4 r_n_tried r_n_triedLeave r_n_barred r_l1 r_l2 r_l3 r_l4 h; exact False.elim h
  | succ n ih =>
    intro n_tried n_triedLeave n_barred l1 l2 l3 l4 r_n_tried r_n_triedLeave r_n_barred r_l1 r_l2 r_l3 r_l4 h
    rw [wp_X2_leaveOutHopeless_5] at h
    refine q_iload g 4 4 rfl dX2_leaveOutHopeless_5 ?_
    refine q_prm g 84 wF_X2_84 dX2_leaveOutHopeless_7 ?_
    refine q_prmLen g dX2_leaveOutHopeless_10 ?_
    refine q_icmp_ge g (57) 68 r_l4 (r32_lit _ (by decide)) (by decide) dX2_leaveOutHopeless_11 (fun b11 => ?_) (fun b11 => ?_)
    · replace h := h.1 b11
      refine q_iload_n g 3 3 rfl dX2_leaveOutHopeless_68 ?_
      refine q_iconst g (1) dX2_leaveOutHopeless_69 ?_
      refine q_icmp_ne g (7) 77 r_l3 (r32_lit _ (by decide)) (by decide) dX2_leaveOutHopeless_70 (fun b70 => ?_) (fun b70 => ?_)
      · replace h := h.1 b70
        refine q_iconst g (0) dX2_leaveOutHopeless_77 ?_
        refine q_lv (lv' := []) [] rfl ?_
        exact s_X2_leaveOutHopeless_78 g hR hX2 aX2_tried aX2_triedLeave aX2_numbers aX2_weights aX2_weightsAhead aX2_grains aX2_placeFrom aX2_first n_size n_parts n_wanted n_found n_limit r_n_limit Q hF n_tried n_triedLeave n_barred 0 r_n_tried r_n_triedLeave r_n_barred (r32_lit _ (by decide)) h
      replace h := h.2 b70
      refine q_iconst g (1) dX2_leaveOutHopeless_73 ?_
      refine q_goto g (4) 78 (by decide) dX2_leaveOutHopeless_74 ?_
      refine q_lv (lv' := []) [] rfl ?_
      exact s_X2_leaveOutHopeless_78 g hR hX2 aX2_tried aX2_triedLeave aX2_numbers aX2_weights aX2_weightsAhead aX2_grains aX2_placeFrom aX2_first n_size n_parts n_wanted n_found n_limit r_n_limit Q hF n_tried n_triedLeave n_barred 1 r_n_tried r_n_triedLeave r_n_barred (r32_lit _ (by decide)) h
    replace h := h.2 b11
    refine q_prm g 84 wF_X2_84 dX2_leaveOutHopeless_14 ?_
    refine q_iload g 4 4 rfl dX2_leaveOutHopeless_17 ?_
    obtain ⟨c19, h⟩ := h
    obtain ⟨e19, h⟩ := h
    refine q_prmAt g c19 e19 dX2_leaveOutHopeless_19 ?_
    refine q_topi (prmF_r _) (fun x20 ex20 rx20 => ?_)
    replace h := h x20 ex20
    refine q_istore (lv' := [(5, .int (i32 x20)), (0, .ref hX2), (1, .int (i32 l1)), (2, .int (i32 l2)), (3, .int (i32 l3)), (4, .int (i32 l4))]) g 5   (by decide) rfl dX2_leaveOutHopeless_20 ?_
    refine q_iload g 5 0 rfl dX2_leaveOutHopeless_22 ?_
    refine q_aload_n g 0 1 rfl dX2_leaveOutHopeless_24 ?_
    refine q_get (C := RX2) (T := TX2) (N := 14) g 45 inX2 0 9 rfl rfl (by decide) wF_X2_45 rfl dX2_leaveOutHopeless_25 ?_
    refine q_icmp_gt g (34) 62 rx20 r_n_limit (by decide) dX2_leaveOutHopeless_28 (fun b28 => ?_) (fun b28 => ?_)
    · replace h := h.1 b28
      refine q_lv (lv' := [(0, .ref hX2), (1, .int (i32 l1)), (2, .int (i32 l2)), (3, .int (i32 l3)), (4, .int (i32 l4))]) [1, 2, 3, 4, 5] rfl ?_
      exact s_X2_leaveOutHopeless_62 g hR hX2 aX2_tried aX2_triedLeave aX2_numbers aX2_weights aX2_weightsAhead aX2_grains aX2_placeFrom aX2_first n_size n_parts n_wanted n_found n_limit r_n_limit Q hF (wp_X2_leaveOutHopeless_5 Q n_limit n) (fun v0 v1 v2 v3 v4 v5 v6 w0 w1 w2 w3 w4 w5 w6 hh => ih v0 v1 v2 v3 v4 v5 v6 w0 w1 w2 w3 w4 w5 w6 hh) n_tried n_triedLeave n_barred l1 l2 l3 l4 r_n_tried r_n_triedLeave r_n_barred r_l1 r_l2 r_l3 r_l4 h
    replace h := h.2 b28
    refine q_iload_n g 2 3 rfl dX2_leaveOutHopeless_31 ?_
    refine q_iload g 5 0 rfl dX2_leaveOutHopeless_32 ?_
    refine q_callS (lev := 1) (mc := 0) (ms := 0) (As := [.int (i32 l2), .int (i32 x20)]) g 87 (c_X2_powerIn X.l X.D X.cI X.cJ X.zt l2 x20 _ r_l2 rx20 h) (wr := [(hX2, .inr (2, [.ref aX2_tried, .ref aX2_triedLeave, .ref aX2_numbers, .ref aX2_weights, .ref aX2_weightsAhead, .ref aX2_grains, .ref aX2_placeFrom, .ref aX2_first, .long (i64 n_barred), .int (i32 n_limit), .int (i32 n_size), .long (i64 n_parts), .long (i64 n_wanted), .int (i32 n_found)])), (aX2_tried, aI X.cI 5 n_tried), (aX2_triedLeave, aL X.cJ 5 n_triedLeave)]) [] [0, 1, 2] rfl rfl rfl (by decide) (by decide) (by decide) wM_X2_87 wT_X2_powerIn wZ_X2 wC_X2_powerIn 2 rfl (by decide +kernel) (by rw [hR]; exact ⟨by show 1 + 1 ≤ 5; omega, by show 8 + (5 + 11) + 100 * 1 ≤ 100 * 5; omega⟩) (by rw [hR]; exact ⟨Nat.le_refl _, Nat.le_refl _⟩) (Nat.le_of_ble_eq_true rfl) rfl dX2_leaveOutHopeless_34 (fun rv w1 hq => ?_)
    obtain ⟨x34, rfl, rfl, rx34, h⟩ := hq
    show Wat X 0 0 37 [(5, .int (i32 x20)), (0, .ref hX2), (1, .int (i32 l1)), (2, .int (i32 l2)), (3, .int (i32 l3)), (4, .int (i32 l4))] [.int (i32 x34)] [(hX2, .inr (2, [.ref aX2_tried, .ref aX2_triedLeave, .ref aX2_numbers, .ref aX2_weights, .ref aX2_weightsAhead, .ref aX2_grains, .ref aX2_placeFrom, .ref aX2_first, .long (i64 n_barred), .int (i32 n_limit), .int (i32 n_size), .long (i64 n_parts), .long (i64 n_wanted), .int (i32 n_found)])), (aX2_tried, aI X.cI 5 n_tried), (aX2_triedLeave, aL X.cJ 5 n_triedLeave)]
    refine q_istore (lv' := [(6, .int (i32 x34)), (5, .int (i32 x20)), (0, .ref hX2), (1, .int (i32 l1)), (2, .int (i32 l2)), (3, .int (i32 l3)), (4, .int (i32 l4))]) g 6   (by decide) rfl dX2_leaveOutHopeless_37 ?_
    refine q_iload_n g 3 5 rfl dX2_leaveOutHopeless_39 ?_
    refine q_iload g 6 0 rfl dX2_leaveOutHopeless_40 ?_
    obtain ⟨c42, h⟩ := h
    refine q_idiv g r_l3 rx34 (ne_of_pos c42) dX2_leaveOutHopeless_42 ?_
    refine q_topi (r32_tdiv r_l3 c42) (fun x43 ex43 rx43 => ?_)
    replace h := h x43 ex43
    refine q_istore_n (lv' := [(3, .int (i32 x43)), (6, .int (i32 x34)), (5, .int (i32 x20)), (0, .ref hX2), (1, .int (i32 l1)), (2, .int (i32 l2)), (4, .int (i32 l4))]) g 3 3 rfl (by decide) rfl dX2_leaveOutHopeless_43 ?_
    refine q_aload_n g 0 3 rfl dX2_leaveOutHopeless_44 ?_
    refine q_iload g 5 2 rfl dX2_leaveOutHopeless_45 ?_
    refine q_iload g 6 1 rfl dX2_leaveOutHopeless_47 ?_
    refine q_iload_n g 1 4 rfl dX2_leaveOutHopeless_49 ?_
    refine q_iload_n g 2 5 rfl dX2_leaveOutHopeless_50 ?_
    refine q_iload g 6 1 rfl dX2_leaveOutHopeless_51 ?_
    obtain ⟨c53, h⟩ := h
    refine q_idiv g r_l2 rx34 (ne_of_pos c53) dX2_leaveOutHopeless_53 ?_
    refine q_callV (lev := 4) (mc := 0) (ms := 0) g 90 (c_X2_leaveOutMultiples X.l X.D X.cI X.cJ X.zt hX2 aX2_tried aX2_triedLeave aX2_numbers aX2_weights aX2_weightsAhead aX2_grains aX2_placeFrom aX2_first n_barred n_limit n_size n_parts n_wanted n_found n_tried n_triedLeave x20 x34 l1 (l2.tdiv x34) _ r_n_tried r_n_triedLeave r_n_barred r_n_limit rx20 rx34 r_l1 (r32_tdiv r_l2 c53) h) (wr := []) [0, 1, 2] [] rfl rfl rfl (by decide) (by decide) (by decide) (ci := 2) rfl rfl rfl wM_X2_90 wI_X2_leaveOutMultiples wS_X2_leaveOutMultiples wZ_X2 wC_X2_leaveOutMultiples 4 rfl (by decide +kernel) (by rw [hR]; exact ⟨by show 4 + 1 ≤ 5; omega, by show 8 + (10 + 11) + 100 * 4 ≤ 100 * 5; omega⟩) (by rw [hR]; exact ⟨Nat.le_refl _, Nat.le_refl _⟩) (Nat.le_of_ble_eq_true rfl) rfl dX2_leaveOutHopeless_54 (fun rv w1 hq => ?_)
    obtain ⟨x54, n_tried_54, n_triedLeave_54, n_barred_54, rfl, rfl, rx54, rn_tried_54, rn_triedLeave_54, rn_barred_54, h⟩ := hq
    show Wat X 0 0 57 [(3, .int (i32 x43)), (6, .int (i32 x34)), (5, .int (i32 x20)), (0, .ref hX2), (1, .int (i32 l1)), (2, .int (i32 l2)), (4, .int (i32 l4))] [.int (i32 x54)] [(hX2, .inr (2, [.ref aX2_tried, .ref aX2_triedLeave, .ref aX2_numbers, .ref aX2_weights, .ref aX2_weightsAhead, .ref aX2_grains, .ref aX2_placeFrom, .ref aX2_first, .long (i64 n_barred_54), .int (i32 n_limit), .int (i32 n_size), .long (i64 n_parts), .long (i64 n_wanted), .int (i32 n_found)])), (aX2_tried, aI X.cI 5 n_tried_54), (aX2_triedLeave, aL X.cJ 5 n_triedLeave_54)]
    refine q_if_ne g (5) 62 rx54 (by decide) dX2_leaveOutHopeless_57 (fun b57 => ?_) (fun b57 => ?_)
    · replace h := h.1 b57
      refine q_lv (lv' := [(0, .ref hX2), (1, .int (i32 l1)), (2, .int (i32 l2)), (3, .int (i32 x43)), (4, .int (i32 l4))]) [3, 4, 5, 0, 6] rfl ?_
      exact s_X2_leaveOutHopeless_62 g hR hX2 aX2_tried aX2_triedLeave aX2_numbers aX2_weights aX2_weightsAhead aX2_grains aX2_placeFrom aX2_first n_size n_parts n_wanted n_found n_limit r_n_limit Q hF (wp_X2_leaveOutHopeless_5 Q n_limit n) (fun v0 v1 v2 v3 v4 v5 v6 w0 w1 w2 w3 w4 w5 w6 hh => ih v0 v1 v2 v3 v4 v5 v6 w0 w1 w2 w3 w4 w5 w6 hh) n_tried_54 n_triedLeave_54 n_barred_54 l1 l2 x43 l4 rn_tried_54 rn_triedLeave_54 rn_barred_54 r_l1 r_l2 rx43 r_l4 h
    replace h := h.2 b57
    refine q_iconst g (0) dX2_leaveOutHopeless_60 ?_
    exact q_zret g hF (by decide) ⟨0, n_tried_54, n_triedLeave_54, n_barred_54, rfl, rfl, (r32_lit _ (by decide)), rn_tried_54, rn_triedLeave_54, rn_barred_54, h⟩ dX2_leaveOutHopeless_61
def wp_X2_leaveOutHopeless (Q : Int → (Int → Int) → (Int → Int) → Int → Prop) (n_tried : Int → Int) (n_triedLeave : Int → Int) (n_barred : Int) (n_limit : Int) (l1 : Int) (l2 : Int) : Prop := (∃ n0 : Nat, wp_X2_leaveOutHopeless_5 Q n_limit n0 n_tried n_triedLeave n_barred l1 l2 l2 0)
set_option maxHeartbeats 4000000 in
set_option maxRecDepth 100000 in
theorem c_X2_leaveOutHopeless (l : Launch) (D : va_G) (cI cJ : ClassId) (zt : Nat) (hX2 : Nat) (aX2_tried : Nat) (aX2_triedLeave : Nat) (aX2_numbers : Nat) (aX2_weights : Nat) (aX2_weightsAhead : Nat) (aX2_grains : Nat) (aX2_placeFrom : Nat) (aX2_first : Nat) (n_barred : Int) (n_limit : Int) (n_size : Int) (n_parts : Int) (n_wanted : Int) (n_found : Int) (n_tried : Int → Int) (n_triedLeave : Int → Int) (l1 : Int) (l2 : Int) (Q : Int → (Int → Int) → (Int → Int) → Int → Prop) (r_n_tried : rr32 n_tried) (r_n_triedLeave : rr64 n_triedLeave) (r_n_barred : r64 n_barred) (r_n_limit : r32 n_limit) (r_l1 : r32 l1) (r_l2 : r32 l2) (h : wp_X2_leaveOutHopeless Q n_tried n_triedLeave n_barred n_limit l1 l2) : Ct l D cI cJ zt yX2_leaveOutHopeless cX2_leaveOutHopeless 7 (some .boolean) 5 0 0 [.ref hX2, .int (i32 l1), .int (i32 l2)] [(hX2, .inr (2, [.ref aX2_tried, .ref aX2_triedLeave, .ref aX2_numbers, .ref aX2_weights, .ref aX2_weightsAhead, .ref aX2_grains, .ref aX2_placeFrom, .ref aX2_first, .long (i64 n_barred), .int (i32 n_limit), .int (i32 n_size), .long (i64 n_parts), .long (i64 n_wanted), .int (i32 n_found)])), (aX2_tried, aI cI 5 n_tried), (aX2_triedLeave, aL cJ 5 n_triedLeave)] (po_X2_leaveOutHopeless cI cJ hX2 aX2_tried aX2_triedLeave aX2_numbers aX2_weights aX2_weightsAhead aX2_grains aX2_placeFrom aX2_first n_limit n_size n_parts n_wanted n_found Q) := by
  refine ct_of (by decide +kernel) (Nat.le_of_ble_eq_true rfl) (fun X hl hDD hcI hcJ hzt hR hF hnm g => ?_)
  subst hl; subst hDD; subst hcI; subst hcJ; subst hzt
  show Wat X 0 0 0 [(0, .ref hX2), (1, .int (i32 l1)), (2, .int (i32 l2))] [] [(hX2, .inr (2, [.ref aX2_tried, .ref aX2_triedLeave, .ref aX2_numbers, .ref aX2_weights, .ref aX2_weightsAhead, .ref aX2_grains, .ref aX2_placeFrom, .ref aX2_first, .long (i64 n_barred), .int (i32 n_limit), .int (i32 n_size), .long (i64 n_parts), .long (i64 n_wanted), .int (i32 n_found)])), (aX2_tried, aI X.cI 5 n_tried), (aX2_triedLeave, aL X.cJ 5 n_triedLeave)]
  replace g : Gd X cX2_leaveOutHopeless RX2 (some .boolean) 7 := g
  rw [wp_X2_leaveOutHopeless] at h
  refine q_iload_n g 2 2 rfl dX2_leaveOutHopeless_0 ?_
  refine q_istore_n (lv' := [(3, .int (i32 l2)), (0, .ref hX2), (1, .int (i32 l1)), (2, .int (i32 l2))]) g 3 3 rfl (by decide) rfl dX2_leaveOutHopeless_1 ?_
  refine q_iconst g (0) dX2_leaveOutHopeless_2 ?_
  refine q_istore (lv' := [(4, .int (i32 0)), (3, .int (i32 l2)), (0, .ref hX2), (1, .int (i32 l1)), (2, .int (i32 l2))]) g 4   (by decide) rfl dX2_leaveOutHopeless_3 ?_
  refine q_lv (lv' := [(0, .ref hX2), (1, .int (i32 l1)), (2, .int (i32 l2)), (3, .int (i32 l2)), (4, .int (i32 0))]) [2, 3, 4, 1, 0] rfl ?_
  obtain ⟨n0, h⟩ := h
  exact s_X2_leaveOutHopeless_5 g hR hX2 aX2_tried aX2_triedLeave aX2_numbers aX2_weights aX2_weightsAhead aX2_grains aX2_placeFrom aX2_first n_size n_parts n_wanted n_found n_limit r_n_limit Q hF n0 n_tried n_triedLeave n_barred l1 l2 l2 0 r_n_tried r_n_triedLeave r_n_barred r_l1 r_l2 r_l2 (r32_lit _ (by decide)) h
theorem dX2_weigh_0 : decode cX2_weigh 0 = .ok (.iconst 2, 1) := by decide +kernel
theorem dX2_weigh_1 : decode cX2_weigh 1 = .ok (.istore_n 1, 1) := by decide +kernel
theorem dX2_weigh_2 : decode cX2_weigh 2 = .ok (.iload_n 1, 1) := by decide +kernel
theorem dX2_weigh_3 : decode cX2_weigh 3 = .ok (.aload_n 0, 1) := by decide +kernel
theorem dX2_weigh_4 : decode cX2_weigh 4 = .ok (.getfield 45, 3) := by decide +kernel
theorem dX2_weigh_7 : decode cX2_weigh 7 = .ok (.if_icmp .gt 93, 3) := by decide +kernel
theorem dX2_weigh_10 : decode cX2_weigh 10 = .ok (.aload_n 0, 1) := by decide +kernel
theorem dX2_weigh_11 : decode cX2_weigh 11 = .ok (.getfield 33, 3) := by decide +kernel
theorem dX2_weigh_14 : decode cX2_weigh 14 = .ok (.iload_n 1, 1) := by decide +kernel
theorem dX2_weigh_15 : decode cX2_weigh 15 = .ok (.aload_n 0, 1) := by decide +kernel
theorem dX2_weigh_16 : decode cX2_weigh 16 = .ok (.getfield 49, 3) := by decide +kernel
theorem dX2_weigh_19 : decode cX2_weigh 19 = .ok (.iastore, 1) := by decide +kernel
theorem dX2_weigh_20 : decode cX2_weigh 20 = .ok (.aload_n 0, 1) := by decide +kernel
theorem dX2_weigh_21 : decode cX2_weigh 21 = .ok (.iload_n 1, 1) := by decide +kernel
theorem dX2_weigh_22 : decode cX2_weigh 22 = .ok (.invokevirtual 109, 3) := by decide +kernel
theorem dX2_weigh_25 : decode cX2_weigh 25 = .ok (.ifCond .ne 69, 3) := by decide +kernel
theorem dX2_weigh_28 : decode cX2_weigh 28 = .ok (.aload_n 0, 1) := by decide +kernel
theorem dX2_weigh_29 : decode cX2_weigh 29 = .ok (.getfield 21, 3) := by decide +kernel
theorem dX2_weigh_32 : decode cX2_weigh 32 = .ok (.aload_n 0, 1) := by decide +kernel
theorem dX2_weigh_33 : decode cX2_weigh 33 = .ok (.getfield 49, 3) := by decide +kernel
theorem dX2_weigh_36 : decode cX2_weigh 36 = .ok (.iload_n 1, 1) := by decide +kernel
theorem dX2_weigh_37 : decode cX2_weigh 37 = .ok (.iastore, 1) := by decide +kernel
theorem dX2_weigh_38 : decode cX2_weigh 38 = .ok (.aload_n 0, 1) := by decide +kernel
theorem dX2_weigh_39 : decode cX2_weigh 39 = .ok (.getfield 24, 3) := by decide +kernel
theorem dX2_weigh_42 : decode cX2_weigh 42 = .ok (.aload_n 0, 1) := by decide +kernel
theorem dX2_weigh_43 : decode cX2_weigh 43 = .ok (.getfield 49, 3) := by decide +kernel
theorem dX2_weigh_46 : decode cX2_weigh 46 = .ok (.aload_n 0, 1) := by decide +kernel
theorem dX2_weigh_47 : decode cX2_weigh 47 = .ok (.getfield 67, 3) := by decide +kernel
theorem dX2_weigh_50 : decode cX2_weigh 50 = .ok (.iload_n 1, 1) := by decide +kernel
theorem dX2_weigh_51 : decode cX2_weigh 51 = .ok (.i2l, 1) := by decide +kernel
theorem dX2_weigh_52 : decode cX2_weigh 52 = .ok (.ldiv, 1) := by decide +kernel
theorem dX2_weigh_53 : decode cX2_weigh 53 = .ok (.lastore, 1) := by decide +kernel
theorem dX2_weigh_54 : decode cX2_weigh 54 = .ok (.aload_n 0, 1) := by decide +kernel
theorem dX2_weigh_55 : decode cX2_weigh 55 = .ok (.getfield 27, 3) := by decide +kernel
theorem dX2_weigh_58 : decode cX2_weigh 58 = .ok (.aload_n 0, 1) := by decide +kernel
theorem dX2_weigh_59 : decode cX2_weigh 59 = .ok (.getfield 49, 3) := by decide +kernel
theorem dX2_weigh_62 : decode cX2_weigh 62 = .ok (.iconst 1, 1) := by decide +kernel
theorem dX2_weigh_63 : decode cX2_weigh 63 = .ok (.iadd, 1) := by decide +kernel
theorem dX2_weigh_64 : decode cX2_weigh 64 = .ok (.aload_n 0, 1) := by decide +kernel
theorem dX2_weigh_65 : decode cX2_weigh 65 = .ok (.getfield 27, 3) := by decide +kernel
theorem dX2_weigh_68 : decode cX2_weigh 68 = .ok (.aload_n 0, 1) := by decide +kernel
theorem dX2_weigh_69 : decode cX2_weigh 69 = .ok (.getfield 49, 3) := by decide +kernel
theorem dX2_weigh_72 : decode cX2_weigh 72 = .ok (.laload, 1) := by decide +kernel
theorem dX2_weigh_73 : decode cX2_weigh 73 = .ok (.aload_n 0, 1) := by decide +kernel
theorem dX2_weigh_74 : decode cX2_weigh 74 = .ok (.getfield 24, 3) := by decide +kernel
theorem dX2_weigh_77 : decode cX2_weigh 77 = .ok (.aload_n 0, 1) := by decide +kernel
theorem dX2_weigh_78 : decode cX2_weigh 78 = .ok (.getfield 49, 3) := by decide +kernel
theorem dX2_weigh_81 : decode cX2_weigh 81 = .ok (.laload, 1) := by decide +kernel
theorem dX2_weigh_82 : decode cX2_weigh 82 = .ok (.ladd, 1) := by decide +kernel
theorem dX2_weigh_83 : decode cX2_weigh 83 = .ok (.lastore, 1) := by decide +kernel
theorem dX2_weigh_84 : decode cX2_weigh 84 = .ok (.aload_n 0, 1) := by decide +kernel
theorem dX2_weigh_85 : decode cX2_weigh 85 = .ok (.dup, 1) := by decide +kernel
theorem dX2_weigh_86 : decode cX2_weigh 86 = .ok (.getfield 49, 3) := by decide +kernel
theorem dX2_weigh_89 : decode cX2_weigh 89 = .ok (.iconst 1, 1) := by decide +kernel
theorem dX2_weigh_90 : decode cX2_weigh 90 = .ok (.iadd, 1) := by decide +kernel
theorem dX2_weigh_91 : decode cX2_weigh 91 = .ok (.putfield 49, 3) := by decide +kernel
theorem dX2_weigh_94 : decode cX2_weigh 94 = .ok (.iinc 1 1, 3) := by decide +kernel
theorem dX2_weigh_97 : decode cX2_weigh 97 = .ok (.goto (-95), 3) := by decide +kernel
theorem dX2_weigh_100 : decode cX2_weigh 100 = .ok (.aload_n 0, 1) := by decide +kernel
theorem dX2_weigh_101 : decode cX2_weigh 101 = .ok (.getfield 30, 3) := by decide +kernel
theorem dX2_weigh_104 : decode cX2_weigh 104 = .ok (.aload_n 0, 1) := by decide +kernel
theorem dX2_weigh_105 : decode cX2_weigh 105 = .ok (.getfield 49, 3) := by decide +kernel
theorem dX2_weigh_108 : decode cX2_weigh 108 = .ok (.lconst 0, 1) := by decide +kernel
theorem dX2_weigh_109 : decode cX2_weigh 109 = .ok (.lastore, 1) := by decide +kernel
theorem dX2_weigh_110 : decode cX2_weigh 110 = .ok (.aload_n 0, 1) := by decide +kernel
theorem dX2_weigh_111 : decode cX2_weigh 111 = .ok (.getfield 49, 3) := by decide +kernel
theorem dX2_weigh_114 : decode cX2_weigh 114 = .ok (.iconst 1, 1) := by decide +kernel
theorem dX2_weigh_115 : decode cX2_weigh 115 = .ok (.isub, 1) := by decide +kernel
theorem dX2_weigh_116 : decode cX2_weigh 116 = .ok (.istore_n 1, 1) := by decide +kernel
theorem dX2_weigh_117 : decode cX2_weigh 117 = .ok (.iload_n 1, 1) := by decide +kernel
theorem dX2_weigh_118 : decode cX2_weigh 118 = .ok (.ifCond .lt 32, 3) := by decide +kernel
theorem dX2_weigh_121 : decode cX2_weigh 121 = .ok (.aload_n 0, 1) := by decide +kernel
theorem dX2_weigh_122 : decode cX2_weigh 122 = .ok (.getfield 30, 3) := by decide +kernel
theorem dX2_weigh_125 : decode cX2_weigh 125 = .ok (.iload_n 1, 1) := by decide +kernel
theorem dX2_weigh_126 : decode cX2_weigh 126 = .ok (.aload_n 0, 1) := by decide +kernel
theorem dX2_weigh_127 : decode cX2_weigh 127 = .ok (.getfield 30, 3) := by decide +kernel
theorem dX2_weigh_130 : decode cX2_weigh 130 = .ok (.iload_n 1, 1) := by decide +kernel
theorem dX2_weigh_131 : decode cX2_weigh 131 = .ok (.iconst 1, 1) := by decide +kernel
theorem dX2_weigh_132 : decode cX2_weigh 132 = .ok (.iadd, 1) := by decide +kernel
theorem dX2_weigh_133 : decode cX2_weigh 133 = .ok (.laload, 1) := by decide +kernel
theorem dX2_weigh_134 : decode cX2_weigh 134 = .ok (.aload_n 0, 1) := by decide +kernel
theorem dX2_weigh_135 : decode cX2_weigh 135 = .ok (.getfield 24, 3) := by decide +kernel
theorem dX2_weigh_138 : decode cX2_weigh 138 = .ok (.iload_n 1, 1) := by decide +kernel
theorem dX2_weigh_139 : decode cX2_weigh 139 = .ok (.laload, 1) := by decide +kernel
theorem dX2_weigh_140 : decode cX2_weigh 140 = .ok (.invokestatic 117, 3) := by decide +kernel
theorem dX2_weigh_143 : decode cX2_weigh 143 = .ok (.lastore, 1) := by decide +kernel
theorem dX2_weigh_144 : decode cX2_weigh 144 = .ok (.iinc 1 (-1), 3) := by decide +kernel
theorem dX2_weigh_147 : decode cX2_weigh 147 = .ok (.goto (-30), 3) := by decide +kernel
theorem dX2_weigh_150 : decode cX2_weigh 150 = .ok (.return_, 1) := by decide +kernel
abbrev po_X2_weigh (cI cJ : ClassId) (hX2 : Nat) (aX2_tried : Nat) (aX2_triedLeave : Nat) (aX2_numbers : Nat) (aX2_weights : Nat) (aX2_weightsAhead : Nat) (aX2_grains : Nat) (aX2_placeFrom : Nat) (aX2_first : Nat) (n_barred : Int) (n_limit : Int) (n_parts : Int) (n_wanted : Int) (n_found : Int) (Q : (Int → Int) → (Int → Int) → (Int → Int) → (Int → Int) → (Int → Int) → Int → Prop) : Option Value → va_W → Prop := fun rv w1 => ∃ (n_numbers : Int → Int) (n_weights : Int → Int) (n_weightsAhead : Int → Int) (n_grains : Int → Int) (n_placeFrom : Int → Int) (n_size : Int), rv = none ∧ w1 = [(hX2, .inr (2, [.ref aX2_tried, .ref aX2_triedLeave, .ref aX2_numbers, .ref aX2_weights, .ref aX2_weightsAhead, .ref aX2_grains, .ref aX2_placeFrom, .ref aX2_first, .long (i64 n_barred), .int (i32 n_limit), .int (i32 n_size), .long (i64 n_parts), .long (i64 n_wanted), .int (i32 n_found)])), (aX2_numbers, aI cI 60 n_numbers), (aX2_weights, aL cJ 60 n_weights), (aX2_weightsAhead, aL cJ 61 n_weightsAhead), (aX2_grains, aL cJ 61 n_grains), (aX2_placeFrom, aI cI 61 n_placeFrom)] ∧ rr32 n_numbers ∧ rr64 n_weights ∧ rr64 n_weightsAhead ∧ rr64 n_grains ∧ rr32 n_placeFrom ∧ r32 n_size ∧ Q n_numbers n_weights n_weightsAhead n_grains n_placeFrom n_size
def wp_X2_weigh_94 (Q : (Int → Int) → (Int → Int) → (Int → Int) → (Int → Int) → (Int → Int) → Int → Prop) (n_barred : Int) (n_limit : Int) (n_parts : Int) (K_2 : (Int → Int) → (Int → Int) → (Int → Int) → (Int → Int) → (Int → Int) → Int → Int → Prop) (n_numbers : Int → Int) (n_weights : Int → Int) (n_weightsAhead : Int → Int) (n_grains : Int → Int) (n_placeFrom : Int → Int) (n_size : Int) (l1 : Int) : Prop := (r32 (l1 + 1) ∧ K_2 n_numbers n_weights n_weightsAhead n_grains n_placeFrom n_size (l1 + 1))
set_option maxHeartbeats 4000000 in
set_option maxRecDepth 100000 in
theorem s_X2_weigh_94 {X : Cx} (g : Gd X cX2_weigh RX2 none 2) (hR : X.R = rmL 3 0 0) (hX2 : Nat) (aX2_tried : Nat) (aX2_triedLeave : Nat) (aX2_numbers : Nat) (aX2_weights : Nat) (aX2_weightsAhead : Nat) (aX2_grains : Nat) (aX2_placeFrom : Nat) (aX2_first : Nat) (n_wanted : Int) (n_found : Int) (n_barred : Int) (n_limit : Int) (n_parts : Int) (r_n_barred : r64 n_barred) (r_n_limit : r32 n_limit) (r_n_parts : r64 n_parts) (Q : (Int → Int) → (Int → Int) → (Int → Int) → (Int → Int) → (Int → Int) → Int → Prop) (hF : FQ X 0 0 (po_X2_weigh X.cI X.cJ hX2 aX2_tried aX2_triedLeave aX2_numbers aX2_weights aX2_weightsAhead aX2_grains aX2_placeFrom aX2_first n_barred n_limit n_parts n_wanted n_found Q)) (K_2 : (Int → Int) → (Int → Int) → (Int → Int) → (Int → Int) → (Int → Int) → Int → Int → Prop) (hK_2 : ∀ (n_numbers : Int → Int) (n_weights : Int → Int) (n_weightsAhead : Int → Int) (n_grains : Int → Int) (n_placeFrom : Int → Int) (n_size : Int) (l1 : Int), rr32 n_numbers → rr64 n_weights → rr64 n_weightsAhead → rr64 n_grains → rr32 n_placeFrom → r32 n_size → r32 l1 → K_2 n_numbers n_weights n_weightsAhead n_grains n_placeFrom n_size l1 → Wat X 0 0 2 [(0, .ref hX2), (1, .int (i32 l1))] [] [(hX2, .inr (2, [.ref aX2_tried, .ref aX2_triedLeave, .ref aX2_numbers, .ref aX2_weights, .ref aX2_weightsAhead, .ref aX2_grains, .ref aX2_placeFrom, .ref aX2_first, .long (i64 n_barred), .int (i32 n_limit), .int (i32 n_size), .long (i64 n_parts), .long (i64 n_wanted), .int (i32 n_found)])), (aX2_numbers, aI X.cI 60 n_numbers), (aX2_weights, aL X.cJ 60 n_weights), (aX2_weightsAhead, aL X.cJ 61 n_weightsAhead), (aX2_grains, aL X.cJ 61 n_grains), (aX2_placeFrom, aI X.cI 61 n_placeFrom)]) : ∀ (n_numbers : Int → Int) (n_weights : Int → Int) (n_weightsAhead : Int → Int) (n_grains : Int → Int) (n_placeFrom : Int → Int) (n_size : Int) (l1 : Int), rr32 n_numbers → rr64 n_weights → rr64 n_weightsAhead → rr64 n_grains → rr32 n_placeFrom → r32 n_size → r32 l1 → wp_X2_weigh_94 Q n_barred n_limit n_parts K_2 n_numbers n_weights n_weightsAhead n_grains n_placeFrom n_size l1 → Wat X 0 0 94 [(0, .ref hX2), (1, .int (i32 l1))] [] [(hX2, .inr (2, [.ref aX2_tried, .ref aX2_triedLeave, .ref aX2_numbers, .ref aX2_weights, .ref aX2_weightsAhead, .ref aX2_grains, .ref aX2_placeFrom, .ref aX2_first, .long (i64 n_barred), .int (i32 n_limit), .int (i32 n_size), .long (i64 n_parts), .long (i64 n_wanted), .int (i32 n_found)])), (aX2_numbers, aI X.cI 60 n_numbers), (aX2_weights, aL X.cJ 60 n_weights), (aX2_weightsAhead, aL X.cJ 61 n_weightsAhead), (aX2_grains, aL X.cJ 61 n_grains), (aX2_placeFrom, aI X.cI 61 n_placeFrom)] := by
  intro n_numbers n_weights n_weightsAhead n_grains n_placeFrom n_size l1 r_n_numbers r_n_weights r_n_weightsAhead r_n_grains r_n_placeFrom r_n_size r_l1 h
  rw [wp_X2_weigh_94] at h
  obtain ⟨c94, h⟩ := h
  refine q_iinc (lv' := [(1, .int (i32 (l1 + 1))), (0, .ref hX2)]) g 1 1 1 (by decide) rfl rfl dX2_weigh_94 ?_
  refine q_goto g (-95) 2 (by decide) dX2_weigh_97 ?_
  refine q_lv (lv' := [(0, .ref hX2), (1, .int (i32 (l1 + 1)))]) [1, 0] rfl ?_
  exact hK_2 n_numbers n_weights n_weightsAhead n_grains n_placeFrom n_size (l1 + 1) r_n_numbers r_n_weights r_n_weightsAhead r_n_grains r_n_placeFrom r_n_size c94 h
def wp_X2_weigh_117 (Q : (Int → Int) → (Int → Int) → (Int → Int) → (Int → Int) → (Int → Int) → Int → Prop) (n_barred : Int) (n_limit : Int) (n_parts : Int) : Nat → (Int → Int) → (Int → Int) → (Int → Int) → (Int → Int) → (Int → Int) → Int → Int → Prop
  | 0, _, _, _, _, _, _, _ => False
  | n + 1, n_numbers, n_weights, n_weightsAhead, n_grains, n_placeFrom, n_size, l1 => ((l1 < 0 → Q n_numbers n_weights n_weightsAhead n_grains n_placeFrom n_size) ∧
  (¬ (l1 < 0) → (r32 (l1 + 1) ∧ 0 ≤ (l1 + 1) ∧ (l1 + 1) < 61 ∧ 0 ≤ l1 ∧ l1 < 60 ∧ wp_X7_commonDivisor (fun (x140 : Int) => (0 ≤ l1 ∧ l1 < 61 ∧ r32 (l1 + (-1)) ∧ wp_X2_weigh_117 Q n_barred n_limit n_parts n n_numbers n_weights n_weightsAhead (ups n_grains l1 x140) n_placeFrom n_size (l1 + (-1)))) (n_grains (l1 + 1)) (n_weights l1))))
set_option maxHeartbeats 4000000 in
set_option maxRecDepth 100000 in
theorem s_X2_weigh_117 {X : Cx} (g : Gd X cX2_weigh RX2 none 2) (hR : X.R = rmL 3 0 0) (hX2 : Nat) (aX2_tried : Nat) (aX2_triedLeave : Nat) (aX2_numbers : Nat) (aX2_weights : Nat) (aX2_weightsAhead : Nat) (aX2_grains : Nat) (aX2_placeFrom : Nat) (aX2_first : Nat) (n_wanted : Int) (n_found : Int) (n_barred : Int) (n_limit : Int) (n_parts : Int) (r_n_barred : r64 n_barred) (r_n_limit : r32 n_limit) (r_n_parts : r64 n_parts) (Q : (Int → Int) → (Int → Int) → (Int → Int) → (Int → Int) → (Int → Int) → Int → Prop) (hF : FQ X 0 0 (po_X2_weigh X.cI X.cJ hX2 aX2_tried aX2_triedLeave aX2_numbers aX2_weights aX2_weightsAhead aX2_grains aX2_placeFrom aX2_first n_barred n_limit n_parts n_wanted n_found Q)) : ∀ (n : Nat) (n_numbers : Int → Int) (n_weights : Int → Int) (n_weightsAhead : Int → Int) (n_grains : Int → Int) (n_placeFrom : Int → Int) (n_size : Int) (l1 : Int), rr32 n_numbers → rr64 n_weights → rr64 n_weightsAhead → rr64 n_grains → rr32 n_placeFrom → r32 n_size → r32 l1 → wp_X2_weigh_117 Q n_barred n_limit n_parts n n_numbers n_weights n_weightsAhead n_grains n_placeFrom n_size l1 → Wat X 0 0 117 [(0, .ref hX2), (1, .int (i32 l1))] [] [(hX2, .inr (2, [.ref aX2_tried, .ref aX2_triedLeave, .ref aX2_numbers, .ref aX2_weights, .ref aX2_weightsAhead, .ref aX2_grains, .ref aX2_placeFrom, .ref aX2_first, .long (i64 n_barred), .int (i32 n_limit), .int (i32 n_size), .long (i64 n_parts), .long (i64 n_wanted), .int (i32 n_found)])), (aX2_numbers, aI X.cI 60 n_numbers), (aX2_weights, aL X.cJ 60 n_weights), (aX2_weightsAhead, aL X.cJ 61 n_weightsAhead), (aX2_grains, aL X.cJ 61 n_grains), (aX2_placeFrom, aI X.cI 61 n_placeFrom)] := by
  intro n
  induction n with
  | zero => intro n_numbers n_weights n_weightsAhead n_grains n_placeFrom n_size l1 r_n_numbers r_n_weights r_n_weightsAhead r_n_grains r_n_placeFrom r_n_size r_l1 h; exact False.elim h
  | succ n ih =>
    intro n_numbers n_weights n_weightsAhead n_grains n_placeFrom n_size l1 r_n_numbers r_n_weights r_n_weightsAhead r_n_grains r_n_placeFrom r_n_size r_l1 h
    rw [wp_X2_weigh_117] at h
    refine q_iload_n g 1 1 rfl dX2_weigh_117 ?_
    refine q_if_lt g (32) 150 r_l1 (by decide) dX2_weigh_118 (fun b118 => ?_) (fun b118 => ?_)
    · replace h := h.1 b118
      exact q_vret g hF ⟨n_numbers, n_weights, n_weightsAhead, n_grains, n_placeFrom, n_size, rfl, rfl, r_n_numbers, r_n_weights, r_n_weightsAhead, r_n_grains, r_n_placeFrom, r_n_size, h⟩ dX2_weigh_150
    replace h := h.2 b118
    refine q_aload_n g 0 0 rfl dX2_weigh_121 ?_
    refine q_get (C := RX2) (T := TX2) (N := 14) g 30 inX2 0 5 rfl rfl (by decide) wF_X2_30 rfl dX2_weigh_122 ?_
    refine q_iload_n g 1 1 rfl dX2_weigh_125 ?_
    refine q_aload_n g 0 0 rfl dX2_weigh_126 ?_
    refine q_get (C := RX2) (T := TX2) (N := 14) g 30 inX2 0 5 rfl rfl (by decide) wF_X2_30 rfl dX2_weigh_127 ?_
    refine q_iload_n g 1 1 rfl dX2_weigh_130 ?_
    refine q_iconst g (1) dX2_weigh_131 ?_
    obtain ⟨c132, h⟩ := h
    refine q_iadd g dX2_weigh_132 ?_
    obtain ⟨c133, h⟩ := h
    obtain ⟨e133, h⟩ := h
    refine q_lald g 4 rfl c133 e133 (by decide) dX2_weigh_133 ?_
    refine q_aload_n g 0 0 rfl dX2_weigh_134 ?_
    refine q_get (C := RX2) (T := TX2) (N := 14) g 24 inX2 0 3 rfl rfl (by decide) wF_X2_24 rfl dX2_weigh_135 ?_
    refine q_iload_n g 1 1 rfl dX2_weigh_138 ?_
    obtain ⟨c139, h⟩ := h
    obtain ⟨e139, h⟩ := h
    refine q_lald g 2 rfl c139 e139 (by decide) dX2_weigh_139 ?_
    refine q_callSN (lev := 2) (mc := 0) (ms := 0) (As := [.long (i64 (n_grains (l1 + 1))), .long (i64 (n_weights l1))]) (host := RX7) g 117 (c_X7_commonDivisor X.l X.D X.cI X.cJ X.zt (n_grains (l1 + 1)) (n_weights l1) _ (r_n_grains _) (r_n_weights _) h) (wr := [(hX2, .inr (2, [.ref aX2_tried, .ref aX2_triedLeave, .ref aX2_numbers, .ref aX2_weights, .ref aX2_weightsAhead, .ref aX2_grains, .ref aX2_placeFrom, .ref aX2_first, .long (i64 n_barred), .int (i32 n_limit), .int (i32 n_size), .long (i64 n_parts), .long (i64 n_wanted), .int (i32 n_found)])), (aX2_numbers, aI X.cI 60 n_numbers), (aX2_weights, aL X.cJ 60 n_weights), (aX2_weightsAhead, aL X.cJ 61 n_weightsAhead), (aX2_grains, aL X.cJ 61 n_grains), (aX2_placeFrom, aI X.cI 61 n_placeFrom)]) [] [0, 1, 2, 3, 4, 5] rfl rfl rfl (by decide) (by decide) (by decide) (List.mem_of_getElem? (i := 6) rfl) wT_X7_commonDivisor wZ_X7 wC_X7_commonDivisor 2 rfl (by decide +kernel) (by rw [hR]; exact ⟨by show 2 + 1 ≤ 3; omega, by show 8 + (11 + 11) + 100 * 2 ≤ 100 * 3; omega⟩) (by rw [hR]; exact ⟨Nat.le_refl _, Nat.le_refl _⟩) (Nat.le_of_ble_eq_true rfl) rfl dX2_weigh_140 (fun rv w1 hq => ?_)
    obtain ⟨x140, rfl, rfl, rx140, h⟩ := hq
    show Wat X 0 0 143 [(0, .ref hX2), (1, .int (i32 l1))] [.long (i64 x140), .int (i32 l1), .ref aX2_grains] [(hX2, .inr (2, [.ref aX2_tried, .ref aX2_triedLeave, .ref aX2_numbers, .ref aX2_weights, .ref aX2_weightsAhead, .ref aX2_grains, .ref aX2_placeFrom, .ref aX2_first, .long (i64 n_barred), .int (i32 n_limit), .int (i32 n_size), .long (i64 n_parts), .long (i64 n_wanted), .int (i32 n_found)])), (aX2_numbers, aI X.cI 60 n_numbers), (aX2_weights, aL X.cJ 60 n_weights), (aX2_weightsAhead, aL X.cJ 61 n_weightsAhead), (aX2_grains, aL X.cJ 61 n_grains), (aX2_placeFrom, aI X.cI 61 n_placeFrom)]
    obtain ⟨c143, h⟩ := h
    obtain ⟨e143, h⟩ := h
    refine q_last (ws' := [(hX2, .inr (2, [.ref aX2_tried, .ref aX2_triedLeave, .ref aX2_numbers, .ref aX2_weights, .ref aX2_weightsAhead, .ref aX2_grains, .ref aX2_placeFrom, .ref aX2_first, .long (i64 n_barred), .int (i32 n_limit), .int (i32 n_size), .long (i64 n_parts), .long (i64 n_wanted), .int (i32 n_found)])), (aX2_numbers, aI X.cI 60 n_numbers), (aX2_weights, aL X.cJ 60 n_weights), (aX2_weightsAhead, aL X.cJ 61 n_weightsAhead), (aX2_grains, aL X.cJ 61 (ups n_grains l1 x140)), (aX2_placeFrom, aI X.cI 61 n_placeFrom)]) g 4 rfl c143 e143 (by decide) rfl dX2_weigh_143 ?_
    obtain ⟨c144, h⟩ := h
    refine q_iinc (lv' := [(1, .int (i32 (l1 + (-1)))), (0, .ref hX2)]) g 1 1 (-1) (by decide) rfl rfl dX2_weigh_144 ?_
    refine q_goto g (-30) 117 (by decide) dX2_weigh_147 ?_
    refine q_lv (lv' := [(0, .ref hX2), (1, .int (i32 (l1 + (-1))))]) [1, 0] rfl ?_
    exact ih n_numbers n_weights n_weightsAhead (ups n_grains l1 x140) n_placeFrom n_size (l1 + (-1)) r_n_numbers r_n_weights r_n_weightsAhead (rr64_u r_n_grains rx140) r_n_placeFrom r_n_size c144 h
def wp_X2_weigh_2 (Q : (Int → Int) → (Int → Int) → (Int → Int) → (Int → Int) → (Int → Int) → Int → Prop) (n_barred : Int) (n_limit : Int) (n_parts : Int) : Nat → (Int → Int) → (Int → Int) → (Int → Int) → (Int → Int) → (Int → Int) → Int → Int → Prop
  | 0, _, _, _, _, _, _, _ => False
  | n + 1, n_numbers, n_weights, n_weightsAhead, n_grains, n_placeFrom, n_size, l1 => ((n_limit < l1 → (0 ≤ n_size ∧ n_size < 61 ∧ r32 (n_size - 1) ∧ ∀ x116 : Int, x116 = (n_size - 1) → (∃ n0 : Nat, wp_X2_weigh_117 Q n_barred n_limit n_parts n0 n_numbers n_weights n_weightsAhead (ups n_grains n_size 0) n_placeFrom n_size x116))) ∧
  (¬ (n_limit < l1) → (0 ≤ l1 ∧ l1 < 61 ∧ wp_X2_isBarred (fun (x22 : Int) => ((¬ x22 = 0 → wp_X2_weigh_94 Q n_barred n_limit n_parts (wp_X2_weigh_2 Q n_barred n_limit n_parts n) n_numbers n_weights n_weightsAhead n_grains (ups n_placeFrom l1 n_size) n_size l1) ∧
  (x22 = 0 → (0 ≤ n_size ∧ n_size < 60 ∧ 0 < l1 ∧ ∀ x53 : Int, x53 = (n_parts.tdiv l1) → 0 ≤ n_size ∧ n_size < 60 ∧ r32 (n_size + 1) ∧ 0 ≤ n_size ∧ n_size < 61 ∧ 0 ≤ n_size ∧ n_size < 60 ∧ r64 ((n_weightsAhead n_size) + ((ups n_weights n_size x53) n_size)) ∧ ∀ x83 : Int, x83 = ((n_weightsAhead n_size) + ((ups n_weights n_size x53) n_size)) → 0 ≤ (n_size + 1) ∧ (n_size + 1) < 61 ∧ r32 (n_size + 1) ∧ ∀ x91 : Int, x91 = (n_size + 1) → wp_X2_weigh_94 Q n_barred n_limit n_parts (wp_X2_weigh_2 Q n_barred n_limit n_parts n) (ups n_numbers n_size l1) (ups n_weights n_size x53) (ups n_weightsAhead (n_size + 1) x83) n_grains (ups n_placeFrom l1 n_size) x91 l1)))) n_barred l1)))
set_option maxHeartbeats 4000000 in
set_option maxRecDepth 100000 in
theorem s_X2_weigh_2 {X : Cx} (g : Gd X cX2_weigh RX2 none 2) (hR : X.R = rmL 3 0 0) (hX2 : Nat) (aX2_tried : Nat) (aX2_triedLeave : Nat) (aX2_numbers : Nat) (aX2_weights : Nat) (aX2_weightsAhead : Nat) (aX2_grains : Nat) (aX2_placeFrom : Nat) (aX2_first : Nat) (n_wanted : Int) (n_found : Int) (n_barred : Int) (n_limit : Int) (n_parts : Int) (r_n_barred : r64 n_barred) (r_n_limit : r32 n_limit) (r_n_parts : r64 n_parts) (Q : (Int → Int) → (Int → Int) → (Int → Int) → (Int → Int) → (Int → Int) → Int → Prop) (hF : FQ X 0 0 (po_X2_weigh X.cI X.cJ hX2 aX2_tried aX2_triedLeave aX2_numbers aX2_weights aX2_weightsAhead aX2_grains aX2_placeFrom aX2_first n_barred n_limit n_parts n_wanted n_found Q)) : ∀ (n : Nat) (n_numbers : Int → Int) (n_weights : Int → Int) (n_weightsAhead : Int → Int) (n_grains : Int → Int) (n_placeFrom : Int → Int) (n_size : Int) (l1 : Int), rr32 n_numbers → rr64 n_weights → rr64 n_weightsAhead → rr64 n_grains → rr32 n_placeFrom → r32 n_size → r32 l1 → wp_X2_weigh_2 Q n_barred n_limit n_parts n n_numbers n_weights n_weightsAhead n_grains n_placeFrom n_size l1 → Wat X 0 0 2 [(0, .ref hX2), (1, .int (i32 l1))] [] [(hX2, .inr (2, [.ref aX2_tried, .ref aX2_triedLeave, .ref aX2_numbers, .ref aX2_weights, .ref aX2_weightsAhead, .ref aX2_grains, .ref aX2_placeFrom, .ref aX2_first, .long (i64 n_barred), .int (i32 n_limit), .int (i32 n_size), .long (i64 n_parts), .long (i64 n_wanted), .int (i32 n_found)])), (aX2_numbers, aI X.cI 60 n_numbers), (aX2_weights, aL X.cJ 60 n_weights), (aX2_weightsAhead, aL X.cJ 61 n_weightsAhead), (aX2_grains, aL X.cJ 61 n_grains), (aX2_placeFrom, aI X.cI 61 n_placeFrom)] := by
  intro n
  induction n with
  | zero => intro n_numbers n_weights n_weightsAhead n_grains n_placeFrom n_size l1 r_n_numbers r_n_weights r_n_weightsAhead r_n_grains r_n_placeFrom r_n_size r_l1 h; exact False.elim h
  | succ n ih =>
    intro n_numbers n_weights n_weightsAhead n_grains n_placeFrom n_size l1 r_n_numbers r_n_weights r_n_weightsAhead r_n_grains r_n_placeFrom r_n_size r_l1 h
    rw [wp_X2_weigh_2] at h
    refine q_iload_n g 1 1 rfl dX2_weigh_2 ?_
    refine q_aload_n g 0 0 rfl dX2_weigh_3 ?_
    refine q_get (C := RX2) (T := TX2) (N := 14) g 45 inX2 0 9 rfl rfl (by decide) wF_X2_45 rfl dX2_weigh_4 ?_
    refine q_icmp_gt g (93) 100 r_l1 r_n_limit (by decide) dX2_weigh_7 (fun b7 => ?_) (fun b7 => ?_)
    · replace h := h.1 b7
      refine q_aload_n g 0 0 rfl dX2_weigh_100 ?_
      refine q_get (C := RX2) (T := TX2) (N := 14) g 30 inX2 0 5 rfl rfl (by decide) wF_X2_30 rfl dX2_weigh_101 ?_
      refine q_aload_n g 0 0 rfl dX2_weigh_104 ?_
      refine q_get (C := RX2) (T := TX2) (N := 14) g 49 inX2 0 10 rfl rfl (by decide) wF_X2_49 rfl dX2_weigh_105 ?_
      refine q_lconst g 0 0 rfl dX2_weigh_108 ?_
      obtain ⟨c109, h⟩ := h
      obtain ⟨e109, h⟩ := h
      refine q_last (ws' := [(hX2, .inr (2, [.ref aX2_tried, .ref aX2_triedLeave, .ref aX2_numbers, .ref aX2_weights, .ref aX2_weightsAhead, .ref aX2_grains, .ref aX2_placeFrom, .ref aX2_first, .long (i64 n_barred), .int (i32 n_limit), .int (i32 n_size), .long (i64 n_parts), .long (i64 n_wanted), .int (i32 n_found)])), (aX2_numbers, aI X.cI 60 n_numbers), (aX2_weights, aL X.cJ 60 n_weights), (aX2_weightsAhead, aL X.cJ 61 n_weightsAhead), (aX2_grains, aL X.cJ 61 (ups n_grains n_size 0)), (aX2_placeFrom, aI X.cI 61 n_placeFrom)]) g 4 rfl c109 e109 (by decide) rfl dX2_weigh_109 ?_
      refine q_aload_n g 0 0 rfl dX2_weigh_110 ?_
      refine q_get (C := RX2) (T := TX2) (N := 14) g 49 inX2 0 10 rfl rfl (by decide) wF_X2_49 rfl dX2_weigh_111 ?_
      refine q_iconst g (1) dX2_weigh_114 ?_
      obtain ⟨c115, h⟩ := h
      refine q_isub g dX2_weigh_115 ?_
      refine q_topi c115 (fun x116 ex116 rx116 => ?_)
      replace h := h x116 ex116
      refine q_istore_n (lv' := [(1, .int (i32 x116)), (0, .ref hX2)]) g 1 1 rfl (by decide) rfl dX2_weigh_116 ?_
      refine q_lv (lv' := [(0, .ref hX2), (1, .int (i32 x116))]) [1, 0] rfl ?_
      obtain ⟨n0, h⟩ := h
      exact s_X2_weigh_117 g hR hX2 aX2_tried aX2_triedLeave aX2_numbers aX2_weights aX2_weightsAhead aX2_grains aX2_placeFrom aX2_first n_wanted n_found n_barred n_limit n_parts r_n_barred r_n_limit r_n_parts Q hF n0 n_numbers n_weights n_weightsAhead (ups n_grains n_size 0) n_placeFrom n_size x116 r_n_numbers r_n_weights r_n_weightsAhead (rr64_u r_n_grains (r64_lit _ (by decide))) r_n_placeFrom r_n_size rx116 h
    replace h := h.2 b7
    refine q_aload_n g 0 0 rfl dX2_weigh_10 ?_
    refine q_get (C := RX2) (T := TX2) (N := 14) g 33 inX2 0 6 rfl rfl (by decide) wF_X2_33 rfl dX2_weigh_11 ?_
    refine q_iload_n g 1 1 rfl dX2_weigh_14 ?_
    refine q_aload_n g 0 0 rfl dX2_weigh_15 ?_
    refine q_get (C := RX2) (T := TX2) (N := 14) g 49 inX2 0 10 rfl rfl (by decide) wF_X2_49 rfl dX2_weigh_16 ?_
    obtain ⟨c19, h⟩ := h
    obtain ⟨e19, h⟩ := h
    refine q_iast (ws' := [(hX2, .inr (2, [.ref aX2_tried, .ref aX2_triedLeave, .ref aX2_numbers, .ref aX2_weights, .ref aX2_weightsAhead, .ref aX2_grains, .ref aX2_placeFrom, .ref aX2_first, .long (i64 n_barred), .int (i32 n_limit), .int (i32 n_size), .long (i64 n_parts), .long (i64 n_wanted), .int (i32 n_found)])), (aX2_numbers, aI X.cI 60 n_numbers), (aX2_weights, aL X.cJ 60 n_weights), (aX2_weightsAhead, aL X.cJ 61 n_weightsAhead), (aX2_grains, aL X.cJ 61 n_grains), (aX2_placeFrom, aI X.cI 61 (ups n_placeFrom l1 n_size))]) g 5 rfl c19 e19 (by decide) rfl dX2_weigh_19 ?_
    refine q_aload_n g 0 0 rfl dX2_weigh_20 ?_
    refine q_iload_n g 1 1 rfl dX2_weigh_21 ?_
    refine q_callV (lev := 2) (mc := 0) (ms := 0) g 109 (c_X2_isBarred X.l X.D X.cI X.cJ X.zt hX2 aX2_tried aX2_triedLeave aX2_numbers aX2_weights aX2_weightsAhead aX2_grains aX2_placeFrom aX2_first n_barred n_limit n_size n_parts n_wanted n_found l1 _ r_n_barred r_l1 h) (wr := [(aX2_numbers, aI X.cI 60 n_numbers), (aX2_weights, aL X.cJ 60 n_weights), (aX2_weightsAhead, aL X.cJ 61 n_weightsAhead), (aX2_grains, aL X.cJ 61 n_grains), (aX2_placeFrom, aI X.cI 61 (ups n_placeFrom l1 n_size))]) [0] [1, 2, 3, 4, 5] rfl rfl rfl (by decide) (by decide) (by decide) (ci := 2) rfl rfl rfl wM_X2_109 wI_X2_isBarred wS_X2_isBarred wZ_X2 wC_X2_isBarred 1 rfl (by decide +kernel) (by rw [hR]; exact ⟨by show 2 + 1 ≤ 3; omega, by show 8 + (2 + 11) + 100 * 2 ≤ 100 * 3; omega⟩) (by rw [hR]; exact ⟨Nat.le_refl _, Nat.le_refl _⟩) (Nat.le_of_ble_eq_true rfl) rfl dX2_weigh_22 (fun rv w1 hq => ?_)
    obtain ⟨x22, rfl, rfl, rx22, h⟩ := hq
    refine q_ws (ws' := [(hX2, .inr (2, [.ref aX2_tried, .ref aX2_triedLeave, .ref aX2_numbers, .ref aX2_weights, .ref aX2_weightsAhead, .ref aX2_grains, .ref aX2_placeFrom, .ref aX2_first, .long (i64 n_barred), .int (i32 n_limit), .int (i32 n_size), .long (i64 n_parts), .long (i64 n_wanted), .int (i32 n_found)])), (aX2_numbers, aI X.cI 60 n_numbers), (aX2_weights, aL X.cJ 60 n_weights), (aX2_weightsAhead, aL X.cJ 61 n_weightsAhead), (aX2_grains, aL X.cJ 61 n_grains), (aX2_placeFrom, aI X.cI 61 (ups n_placeFrom l1 n_size))]) [5, 0, 1, 2, 3, 4] (by decide) rfl rfl ?_
    show Wat X 0 0 25 [(0, .ref hX2), (1, .int (i32 l1))] [.int (i32 x22)] [(hX2, .inr (2, [.ref aX2_tried, .ref aX2_triedLeave, .ref aX2_numbers, .ref aX2_weights, .ref aX2_weightsAhead, .ref aX2_grains, .ref aX2_placeFrom, .ref aX2_first, .long (i64 n_barred), .int (i32 n_limit), .int (i32 n_size), .long (i64 n_parts), .long (i64 n_wanted), .int (i32 n_found)])), (aX2_numbers, aI X.cI 60 n_numbers), (aX2_weights, aL X.cJ 60 n_weights), (aX2_weightsAhead, aL X.cJ 61 n_weightsAhead), (aX2_grains, aL X.cJ 61 n_grains), (aX2_placeFrom, aI X.cI 61 (ups n_placeFrom l1 n_size))]
    refine q_if_ne g (69) 94 rx22 (by decide) dX2_weigh_25 (fun b25 => ?_) (fun b25 => ?_)
    · replace h := h.1 b25
      exact s_X2_weigh_94 g hR hX2 aX2_tried aX2_triedLeave aX2_numbers aX2_weights aX2_weightsAhead aX2_grains aX2_placeFrom aX2_first n_wanted n_found n_barred n_limit n_parts r_n_barred r_n_limit r_n_parts Q hF (wp_X2_weigh_2 Q n_barred n_limit n_parts n) (fun v0 v1 v2 v3 v4 v5 v6 w0 w1 w2 w3 w4 w5 w6 hh => ih v0 v1 v2 v3 v4 v5 v6 w0 w1 w2 w3 w4 w5 w6 hh) n_numbers n_weights n_weightsAhead n_grains (ups n_placeFrom l1 n_size) n_size l1 r_n_numbers r_n_weights r_n_weightsAhead r_n_grains (rr32_u r_n_placeFrom r_n_size) r_n_size r_l1 h
    replace h := h.2 b25
    refine q_aload_n g 0 0 rfl dX2_weigh_28 ?_
    refine q_get (C := RX2) (T := TX2) (N := 14) g 21 inX2 0 2 rfl rfl (by decide) wF_X2_21 rfl dX2_weigh_29 ?_
    refine q_aload_n g 0 0 rfl dX2_weigh_32 ?_
    refine q_get (C := RX2) (T := TX2) (N := 14) g 49 inX2 0 10 rfl rfl (by decide) wF_X2_49 rfl dX2_weigh_33 ?_
    refine q_iload_n g 1 1 rfl dX2_weigh_36 ?_
    obtain ⟨c37, h⟩ := h
    obtain ⟨e37, h⟩ := h
    refine q_iast (ws' := [(hX2, .inr (2, [.ref aX2_tried, .ref aX2_triedLeave, .ref aX2_numbers, .ref aX2_weights, .ref aX2_weightsAhead, .ref aX2_grains, .ref aX2_placeFrom, .ref aX2_first, .long (i64 n_barred), .int (i32 n_limit), .int (i32 n_size), .long (i64 n_parts), .long (i64 n_wanted), .int (i32 n_found)])), (aX2_numbers, aI X.cI 60 (ups n_numbers n_size l1)), (aX2_weights, aL X.cJ 60 n_weights), (aX2_weightsAhead, aL X.cJ 61 n_weightsAhead), (aX2_grains, aL X.cJ 61 n_grains), (aX2_placeFrom, aI X.cI 61 (ups n_placeFrom l1 n_size))]) g 1 rfl c37 e37 (by decide) rfl dX2_weigh_37 ?_
    refine q_aload_n g 0 0 rfl dX2_weigh_38 ?_
    refine q_get (C := RX2) (T := TX2) (N := 14) g 24 inX2 0 3 rfl rfl (by decide) wF_X2_24 rfl dX2_weigh_39 ?_
    refine q_aload_n g 0 0 rfl dX2_weigh_42 ?_
    refine q_get (C := RX2) (T := TX2) (N := 14) g 49 inX2 0 10 rfl rfl (by decide) wF_X2_49 rfl dX2_weigh_43 ?_
    refine q_aload_n g 0 0 rfl dX2_weigh_46 ?_
    refine q_get (C := RX2) (T := TX2) (N := 14) g 67 inX2 0 11 rfl rfl (by decide) wF_X2_67 rfl dX2_weigh_47 ?_
    refine q_iload_n g 1 1 rfl dX2_weigh_50 ?_
    refine q_i2l g r_l1 dX2_weigh_51 ?_
    obtain ⟨c52, h⟩ := h
    refine q_ldiv g r_n_parts (r32_64 r_l1) (ne_of_pos c52) dX2_weigh_52 ?_
    refine q_topl (r64_tdiv r_n_parts c52) (fun x53 ex53 rx53 => ?_)
    replace h := h x53 ex53
    obtain ⟨c53, h⟩ := h
    obtain ⟨e53, h⟩ := h
    refine q_last (ws' := [(hX2, .inr (2, [.ref aX2_tried, .ref aX2_triedLeave, .ref aX2_numbers, .ref aX2_weights, .ref aX2_weightsAhead, .ref aX2_grains, .ref aX2_placeFrom, .ref aX2_first, .long (i64 n_barred), .int (i32 n_limit), .int (i32 n_size), .long (i64 n_parts), .long (i64 n_wanted), .int (i32 n_found)])), (aX2_numbers, aI X.cI 60 (ups n_numbers n_size l1)), (aX2_weights, aL X.cJ 60 (ups n_weights n_size x53)), (aX2_weightsAhead, aL X.cJ 61 n_weightsAhead), (aX2_grains, aL X.cJ 61 n_grains), (aX2_placeFrom, aI X.cI 61 (ups n_placeFrom l1 n_size))]) g 2 rfl c53 e53 (by decide) rfl dX2_weigh_53 ?_
    refine q_aload_n g 0 0 rfl dX2_weigh_54 ?_
    refine q_get (C := RX2) (T := TX2) (N := 14) g 27 inX2 0 4 rfl rfl (by decide) wF_X2_27 rfl dX2_weigh_55 ?_
    refine q_aload_n g 0 0 rfl dX2_weigh_58 ?_
    refine q_get (C := RX2) (T := TX2) (N := 14) g 49 inX2 0 10 rfl rfl (by decide) wF_X2_49 rfl dX2_weigh_59 ?_
    refine q_iconst g (1) dX2_weigh_62 ?_
    obtain ⟨c63, h⟩ := h
    refine q_iadd g dX2_weigh_63 ?_
    refine q_aload_n g 0 0 rfl dX2_weigh_64 ?_
    refine q_get (C := RX2) (T := TX2) (N := 14) g 27 inX2 0 4 rfl rfl (by decide) wF_X2_27 rfl dX2_weigh_65 ?_
    refine q_aload_n g 0 0 rfl dX2_weigh_68 ?_
    refine q_get (C := RX2) (T := TX2) (N := 14) g 49 inX2 0 10 rfl rfl (by decide) wF_X2_49 rfl dX2_weigh_69 ?_
    obtain ⟨c72, h⟩ := h
    obtain ⟨e72, h⟩ := h
    refine q_lald g 3 rfl c72 e72 (by decide) dX2_weigh_72 ?_
    refine q_aload_n g 0 0 rfl dX2_weigh_73 ?_
    refine q_get (C := RX2) (T := TX2) (N := 14) g 24 inX2 0 3 rfl rfl (by decide) wF_X2_24 rfl dX2_weigh_74 ?_
    refine q_aload_n g 0 0 rfl dX2_weigh_77 ?_
    refine q_get (C := RX2) (T := TX2) (N := 14) g 49 inX2 0 10 rfl rfl (by decide) wF_X2_49 rfl dX2_weigh_78 ?_
    obtain ⟨c81, h⟩ := h
    obtain ⟨e81, h⟩ := h
    refine q_lald g 2 rfl c81 e81 (by decide) dX2_weigh_81 ?_
    obtain ⟨c82, h⟩ := h
    refine q_ladd g dX2_weigh_82 ?_
    refine q_topl c82 (fun x83 ex83 rx83 => ?_)
    replace h := h x83 ex83
    obtain ⟨c83, h⟩ := h
    obtain ⟨e83, h⟩ := h
    refine q_last (ws' := [(hX2, .inr (2, [.ref aX2_tried, .ref aX2_triedLeave, .ref aX2_numbers, .ref aX2_weights, .ref aX2_weightsAhead, .ref aX2_grains, .ref aX2_placeFrom, .ref aX2_first, .long (i64 n_barred), .int (i32 n_limit), .int (i32 n_size), .long (i64 n_parts), .long (i64 n_wanted), .int (i32 n_found)])), (aX2_numbers, aI X.cI 60 (ups n_numbers n_size l1)), (aX2_weights, aL X.cJ 60 (ups n_weights n_size x53)), (aX2_weightsAhead, aL X.cJ 61 (ups n_weightsAhead (n_size + 1) x83)), (aX2_grains, aL X.cJ 61 n_grains), (aX2_placeFrom, aI X.cI 61 (ups n_placeFrom l1 n_size))]) g 3 rfl c83 e83 (by decide) rfl dX2_weigh_83 ?_
    refine q_aload_n g 0 0 rfl dX2_weigh_84 ?_
    refine q_dup g rfl dX2_weigh_85 ?_
    refine q_get (C := RX2) (T := TX2) (N := 14) g 49 inX2 0 10 rfl rfl (by decide) wF_X2_49 rfl dX2_weigh_86 ?_
    refine q_iconst g (1) dX2_weigh_89 ?_
    obtain ⟨c90, h⟩ := h
    refine q_iadd g dX2_weigh_90 ?_
    refine q_topi c90 (fun x91 ex91 rx91 => ?_)
    replace h := h x91 ex91
    refine q_put (C := RX2) (T := TX2) (N := 14) (ty := .int) (ws' := [(hX2, .inr (2, [.ref aX2_tried, .ref aX2_triedLeave, .ref aX2_numbers, .ref aX2_weights, .ref aX2_weightsAhead, .ref aX2_grains, .ref aX2_placeFrom, .ref aX2_first, .long (i64 n_barred), .int (i32 n_limit), .int (i32 x91), .long (i64 n_parts), .long (i64 n_wanted), .int (i32 n_found)])), (aX2_numbers, aI X.cI 60 (ups n_numbers n_size l1)), (aX2_weights, aL X.cJ 60 (ups n_weights n_size x53)), (aX2_weightsAhead, aL X.cJ 61 (ups n_weightsAhead (n_size + 1) x83)), (aX2_grains, aL X.cJ 61 n_grains), (aX2_placeFrom, aI X.cI 61 (ups n_placeFrom l1 n_size))]) g 49 inX2 tyX2_ok nmX2 0 10 rfl rfl (by decide) wF_X2_49 rfl rfl rfl rfl (Nat.le_of_ble_eq_true rfl) rfl dX2_weigh_91 ?_
    exact s_X2_weigh_94 g hR hX2 aX2_tried aX2_triedLeave aX2_numbers aX2_weights aX2_weightsAhead aX2_grains aX2_placeFrom aX2_first n_wanted n_found n_barred n_limit n_parts r_n_barred r_n_limit r_n_parts Q hF (wp_X2_weigh_2 Q n_barred n_limit n_parts n) (fun v0 v1 v2 v3 v4 v5 v6 w0 w1 w2 w3 w4 w5 w6 hh => ih v0 v1 v2 v3 v4 v5 v6 w0 w1 w2 w3 w4 w5 w6 hh) (ups n_numbers n_size l1) (ups n_weights n_size x53) (ups n_weightsAhead (n_size + 1) x83) n_grains (ups n_placeFrom l1 n_size) x91 l1 (rr32_u r_n_numbers r_l1) (rr64_u r_n_weights rx53) (rr64_u r_n_weightsAhead rx83) r_n_grains (rr32_u r_n_placeFrom r_n_size) rx91 r_l1 h
def wp_X2_weigh (Q : (Int → Int) → (Int → Int) → (Int → Int) → (Int → Int) → (Int → Int) → Int → Prop) (n_numbers : Int → Int) (n_weights : Int → Int) (n_weightsAhead : Int → Int) (n_grains : Int → Int) (n_placeFrom : Int → Int) (n_barred : Int) (n_limit : Int) (n_size : Int) (n_parts : Int) : Prop := (∃ n0 : Nat, wp_X2_weigh_2 Q n_barred n_limit n_parts n0 n_numbers n_weights n_weightsAhead n_grains n_placeFrom n_size 2)
set_option maxHeartbeats 4000000 in
set_option maxRecDepth 100000 in
theorem c_X2_weigh (l : Launch) (D : va_G) (cI cJ : ClassId) (zt : Nat) (hX2 : Nat) (aX2_tried : Nat) (aX2_triedLeave : Nat) (aX2_numbers : Nat) (aX2_weights : Nat) (aX2_weightsAhead : Nat) (aX2_grains : Nat) (aX2_placeFrom : Nat) (aX2_first : Nat) (n_barred : Int) (n_limit : Int) (n_size : Int) (n_parts : Int) (n_wanted : Int) (n_found : Int) (n_numbers : Int → Int) (n_weights : Int → Int) (n_weightsAhead : Int → Int) (n_grains : Int → Int) (n_placeFrom : Int → Int) (Q : (Int → Int) → (Int → Int) → (Int → Int) → (Int → Int) → (Int → Int) → Int → Prop) (r_n_numbers : rr32 n_numbers) (r_n_weights : rr64 n_weights) (r_n_weightsAhead : rr64 n_weightsAhead) (r_n_grains : rr64 n_grains) (r_n_placeFrom : rr32 n_placeFrom) (r_n_barred : r64 n_barred) (r_n_limit : r32 n_limit) (r_n_size : r32 n_size) (r_n_parts : r64 n_parts) (h : wp_X2_weigh Q n_numbers n_weights n_weightsAhead n_grains n_placeFrom n_barred n_limit n_size n_parts) : Ct l D cI cJ zt yX2_weigh cX2_weigh 2 none 3 0 0 [.ref hX2] [(hX2, .inr (2, [.ref aX2_tried, .ref aX2_triedLeave, .ref aX2_numbers, .ref aX2_weights, .ref aX2_weightsAhead, .ref aX2_grains, .ref aX2_placeFrom, .ref aX2_first, .long (i64 n_barred), .int (i32 n_limit), .int (i32 n_size), .long (i64 n_parts), .long (i64 n_wanted), .int (i32 n_found)])), (aX2_numbers, aI cI 60 n_numbers), (aX2_weights, aL cJ 60 n_weights), (aX2_weightsAhead, aL cJ 61 n_weightsAhead), (aX2_grains, aL cJ 61 n_grains), (aX2_placeFrom, aI cI 61 n_placeFrom)] (po_X2_weigh cI cJ hX2 aX2_tried aX2_triedLeave aX2_numbers aX2_weights aX2_weightsAhead aX2_grains aX2_placeFrom aX2_first n_barred n_limit n_parts n_wanted n_found Q) := by
  refine ct_of (by decide +kernel) (Nat.le_of_ble_eq_true rfl) (fun X hl hDD hcI hcJ hzt hR hF hnm g => ?_)
  subst hl; subst hDD; subst hcI; subst hcJ; subst hzt
  show Wat X 0 0 0 [(0, .ref hX2)] [] [(hX2, .inr (2, [.ref aX2_tried, .ref aX2_triedLeave, .ref aX2_numbers, .ref aX2_weights, .ref aX2_weightsAhead, .ref aX2_grains, .ref aX2_placeFrom, .ref aX2_first, .long (i64 n_barred), .int (i32 n_limit), .int (i32 n_size), .long (i64 n_parts), .long (i64 n_wanted), .int (i32 n_found)])), (aX2_numbers, aI X.cI 60 n_numbers), (aX2_weights, aL X.cJ 60 n_weights), (aX2_weightsAhead, aL X.cJ 61 n_weightsAhead), (aX2_grains, aL X.cJ 61 n_grains), (aX2_placeFrom, aI X.cI 61 n_placeFrom)]
  replace g : Gd X cX2_weigh RX2 none 2 := g
  rw [wp_X2_weigh] at h
  refine q_iconst g (2) dX2_weigh_0 ?_
  refine q_istore_n (lv' := [(1, .int (i32 2)), (0, .ref hX2)]) g 1 1 rfl (by decide) rfl dX2_weigh_1 ?_
  refine q_lv (lv' := [(0, .ref hX2), (1, .int (i32 2))]) [1, 0] rfl ?_
  obtain ⟨n0, h⟩ := h
  exact s_X2_weigh_2 g hR hX2 aX2_tried aX2_triedLeave aX2_numbers aX2_weights aX2_weightsAhead aX2_grains aX2_placeFrom aX2_first n_wanted n_found n_barred n_limit n_parts r_n_barred r_n_limit r_n_parts Q hF n0 n_numbers n_weights n_weightsAhead n_grains n_placeFrom n_size 2 r_n_numbers r_n_weights r_n_weightsAhead r_n_grains r_n_placeFrom r_n_size (r32_lit _ (by decide)) h
theorem dX2_prepare_0 : decode cX2_prepare 0 = .ok (.aload_n 0, 1) := by decide +kernel
theorem dX2_prepare_1 : decode cX2_prepare 1 = .ok (.iload_n 3, 1) := by decide +kernel
theorem dX2_prepare_2 : decode cX2_prepare 2 = .ok (.bipush 60, 2) := by decide +kernel
theorem dX2_prepare_4 : decode cX2_prepare 4 = .ok (.invokestatic 39, 3) := by decide +kernel
theorem dX2_prepare_7 : decode cX2_prepare 7 = .ok (.putfield 45, 3) := by decide +kernel
theorem dX2_prepare_10 : decode cX2_prepare 10 = .ok (.aload_n 0, 1) := by decide +kernel
theorem dX2_prepare_11 : decode cX2_prepare 11 = .ok (.iconst 0, 1) := by decide +kernel
theorem dX2_prepare_12 : decode cX2_prepare 12 = .ok (.putfield 49, 3) := by decide +kernel
theorem dX2_prepare_15 : decode cX2_prepare 15 = .ok (.aload_n 0, 1) := by decide +kernel
theorem dX2_prepare_16 : decode cX2_prepare 16 = .ok (.lconst 0, 1) := by decide +kernel
theorem dX2_prepare_17 : decode cX2_prepare 17 = .ok (.putfield 52, 3) := by decide +kernel
theorem dX2_prepare_20 : decode cX2_prepare 20 = .ok (.aload_n 0, 1) := by decide +kernel
theorem dX2_prepare_21 : decode cX2_prepare 21 = .ok (.lconst 0, 1) := by decide +kernel
theorem dX2_prepare_22 : decode cX2_prepare 22 = .ok (.putfield 56, 3) := by decide +kernel
theorem dX2_prepare_25 : decode cX2_prepare 25 = .ok (.aload_n 0, 1) := by decide +kernel
theorem dX2_prepare_26 : decode cX2_prepare 26 = .ok (.iload_n 1, 1) := by decide +kernel
theorem dX2_prepare_27 : decode cX2_prepare 27 = .ok (.iload_n 2, 1) := by decide +kernel
theorem dX2_prepare_28 : decode cX2_prepare 28 = .ok (.invokevirtual 59, 3) := by decide +kernel
theorem dX2_prepare_31 : decode cX2_prepare 31 = .ok (.ifCond .eq 44, 3) := by decide +kernel
theorem dX2_prepare_34 : decode cX2_prepare 34 = .ok (.aload_n 0, 1) := by decide +kernel
theorem dX2_prepare_35 : decode cX2_prepare 35 = .ok (.invokevirtual 63, 3) := by decide +kernel
theorem dX2_prepare_38 : decode cX2_prepare 38 = .ok (.ifCond .eq 37, 3) := by decide +kernel
theorem dX2_prepare_41 : decode cX2_prepare 41 = .ok (.iload_n 2, 1) := by decide +kernel
theorem dX2_prepare_42 : decode cX2_prepare 42 = .ok (.ifCond .le 33, 3) := by decide +kernel
theorem dX2_prepare_45 : decode cX2_prepare 45 = .ok (.aload_n 0, 1) := by decide +kernel
theorem dX2_prepare_46 : decode cX2_prepare 46 = .ok (.getfield 67, 3) := by decide +kernel
theorem dX2_prepare_49 : decode cX2_prepare 49 = .ok (.iload_n 2, 1) := by decide +kernel
theorem dX2_prepare_50 : decode cX2_prepare 50 = .ok (.i2l, 1) := by decide +kernel
theorem dX2_prepare_51 : decode cX2_prepare 51 = .ok (.lrem, 1) := by decide +kernel
theorem dX2_prepare_52 : decode cX2_prepare 52 = .ok (.lconst 0, 1) := by decide +kernel
theorem dX2_prepare_53 : decode cX2_prepare 53 = .ok (.lcmp, 1) := by decide +kernel
theorem dX2_prepare_54 : decode cX2_prepare 54 = .ok (.ifCond .ne 21, 3) := by decide +kernel
theorem dX2_prepare_57 : decode cX2_prepare 57 = .ok (.aload_n 0, 1) := by decide +kernel
theorem dX2_prepare_58 : decode cX2_prepare 58 = .ok (.aload_n 0, 1) := by decide +kernel
theorem dX2_prepare_59 : decode cX2_prepare 59 = .ok (.getfield 67, 3) := by decide +kernel
theorem dX2_prepare_62 : decode cX2_prepare 62 = .ok (.iload_n 2, 1) := by decide +kernel
theorem dX2_prepare_63 : decode cX2_prepare 63 = .ok (.i2l, 1) := by decide +kernel
theorem dX2_prepare_64 : decode cX2_prepare 64 = .ok (.ldiv, 1) := by decide +kernel
theorem dX2_prepare_65 : decode cX2_prepare 65 = .ok (.iload_n 1, 1) := by decide +kernel
theorem dX2_prepare_66 : decode cX2_prepare 66 = .ok (.i2l, 1) := by decide +kernel
theorem dX2_prepare_67 : decode cX2_prepare 67 = .ok (.lmul, 1) := by decide +kernel
theorem dX2_prepare_68 : decode cX2_prepare 68 = .ok (.putfield 52, 3) := by decide +kernel
theorem dX2_prepare_71 : decode cX2_prepare 71 = .ok (.aload_n 0, 1) := by decide +kernel
theorem dX2_prepare_72 : decode cX2_prepare 72 = .ok (.invokevirtual 70, 3) := by decide +kernel
theorem dX2_prepare_75 : decode cX2_prepare 75 = .ok (.return_, 1) := by decide +kernel
abbrev po_X2_prepare (cI cJ : ClassId) (hX2 : Nat) (aX2_tried : Nat) (aX2_triedLeave : Nat) (aX2_numbers : Nat) (aX2_weights : Nat) (aX2_weightsAhead : Nat) (aX2_grains : Nat) (aX2_placeFrom : Nat) (aX2_first : Nat) (n_found : Int) (Q : (Int → Int) → (Int → Int) → (Int → Int) → (Int → Int) → (Int → Int) → (Int → Int) → (Int → Int) → Int → Int → Int → Int → Int → Prop) : Option Value → va_W → Prop := fun rv w1 => ∃ (n_tried : Int → Int) (n_triedLeave : Int → Int) (n_numbers : Int → Int) (n_weights : Int → Int) (n_weightsAhead : Int → Int) (n_grains : Int → Int) (n_placeFrom : Int → Int) (n_barred : Int) (n_limit : Int) (n_size : Int) (n_parts : Int) (n_wanted : Int), rv = none ∧ w1 = [(hX2, .inr (2, [.ref aX2_tried, .ref aX2_triedLeave, .ref aX2_numbers, .ref aX2_weights, .ref aX2_weightsAhead, .ref aX2_grains, .ref aX2_placeFrom, .ref aX2_first, .long (i64 n_barred), .int (i32 n_limit), .int (i32 n_size), .long (i64 n_parts), .long (i64 n_wanted), .int (i32 n_found)])), (aX2_tried, aI cI 5 n_tried), (aX2_triedLeave, aL cJ 5 n_triedLeave), (aX2_numbers, aI cI 60 n_numbers), (aX2_weights, aL cJ 60 n_weights), (aX2_weightsAhead, aL cJ 61 n_weightsAhead), (aX2_grains, aL cJ 61 n_grains), (aX2_placeFrom, aI cI 61 n_placeFrom)] ∧ rr32 n_tried ∧ rr64 n_triedLeave ∧ rr32 n_numbers ∧ rr64 n_weights ∧ rr64 n_weightsAhead ∧ rr64 n_grains ∧ rr32 n_placeFrom ∧ r64 n_barred ∧ r32 n_limit ∧ r32 n_size ∧ r64 n_parts ∧ r64 n_wanted ∧ Q n_tried n_triedLeave n_numbers n_weights n_weightsAhead n_grains n_placeFrom n_barred n_limit n_size n_parts n_wanted
def wp_X2_prepare_75 (Q : (Int → Int) → (Int → Int) → (Int → Int) → (Int → Int) → (Int → Int) → (Int → Int) → (Int → Int) → Int → Int → Int → Int → Int → Prop) (n_tried : Int → Int) (n_triedLeave : Int → Int) (n_numbers : Int → Int) (n_weights : Int → Int) (n_weightsAhead : Int → Int) (n_grains : Int → Int) (n_placeFrom : Int → Int) (n_barred : Int) (n_limit : Int) (n_size : Int) (n_parts : Int) (n_wanted : Int) : Prop := Q n_tried n_triedLeave n_numbers n_weights n_weightsAhead n_grains n_placeFrom n_barred n_limit n_size n_parts n_wanted
set_option maxHeartbeats 4000000 in
set_option maxRecDepth 100000 in
theorem s_X2_prepare_75 {X : Cx} (g : Gd X cX2_prepare RX2 none 4) (hR : X.R = rmL 6 0 0) (hX2 : Nat) (aX2_tried : Nat) (aX2_triedLeave : Nat) (aX2_numbers : Nat) (aX2_weights : Nat) (aX2_weightsAhead : Nat) (aX2_grains : Nat) (aX2_placeFrom : Nat) (aX2_first : Nat) (n_found : Int) (Q : (Int → Int) → (Int → Int) → (Int → Int) → (Int → Int) → (Int → Int) → (Int → Int) → (Int → Int) → Int → Int → Int → Int → Int → Prop) (hF : FQ X 0 0 (po_X2_prepare X.cI X.cJ hX2 aX2_tried aX2_triedLeave aX2_numbers aX2_weights aX2_weightsAhead aX2_grains aX2_placeFrom aX2_first n_found Q)) : ∀ (n_tried : Int → Int) (n_triedLeave : Int → Int) (n_numbers : Int → Int) (n_weights : Int → Int) (n_weightsAhead : Int → Int) (n_grains : Int → Int) (n_placeFrom : Int → Int) (n_barred : Int) (n_limit : Int) (n_size : Int) (n_parts : Int) (n_wanted : Int), rr32 n_tried → rr64 n_triedLeave → rr32 n_numbers → rr64 n_weights → rr64 n_weightsAhead → rr64 n_grains → rr32 n_placeFrom → r64 n_barred → r32 n_limit → r32 n_size → r64 n_parts → r64 n_wanted → wp_X2_prepare_75 Q n_tried n_triedLeave n_numbers n_weights n_weightsAhead n_grains n_placeFrom n_barred n_limit n_size n_parts n_wanted → Wat X 0 0 75 [] [] [(hX2, .inr (2, [.ref aX2_tried, .ref aX2_triedLeave, .ref aX2_numbers, .ref aX2_weights, .ref aX2_weightsAhead, .ref aX2_grains, .ref aX2_placeFrom, .ref aX2_first, .long (i64 n_barred), .int (i32 n_limit), .int (i32 n_size), .long (i64 n_parts), .long (i64 n_wanted), .int (i32 n_found)])), (aX2_tried, aI X.cI 5 n_tried), (aX2_triedLeave, aL X.cJ 5 n_triedLeave), (aX2_numbers, aI X.cI 60 n_numbers), (aX2_weights, aL X.cJ 60 n_weights), (aX2_weightsAhead, aL X.cJ 61 n_weightsAhead), (aX2_grains, aL X.cJ 61 n_grains), (aX2_placeFrom, aI X.cI 61 n_placeFrom)] := by
  intro n_tried n_triedLeave n_numbers n_weights n_weightsAhead n_grains n_placeFrom n_barred n_limit n_size n_parts n_wanted r_n_tried r_n_triedLeave r_n_numbers r_n_weights r_n_weightsAhead r_n_grains r_n_placeFrom r_n_barred r_n_limit r_n_size r_n_parts r_n_wanted h
  rw [wp_X2_prepare_75] at h
  exact q_vret g hF ⟨n_tried, n_triedLeave, n_numbers, n_weights, n_weightsAhead, n_grains, n_placeFrom, n_barred, n_limit, n_size, n_parts, n_wanted, rfl, rfl, r_n_tried, r_n_triedLeave, r_n_numbers, r_n_weights, r_n_weightsAhead, r_n_grains, r_n_placeFrom, r_n_barred, r_n_limit, r_n_size, r_n_parts, r_n_wanted, h⟩ dX2_prepare_75
def wp_X2_prepare (Q : (Int → Int) → (Int → Int) → (Int → Int) → (Int → Int) → (Int → Int) → (Int → Int) → (Int → Int) → Int → Int → Int → Int → Int → Prop) (n_tried : Int → Int) (n_triedLeave : Int → Int) (n_numbers : Int → Int) (n_weights : Int → Int) (n_weightsAhead : Int → Int) (n_grains : Int → Int) (n_placeFrom : Int → Int) (n_barred : Int) (n_limit : Int) (n_size : Int) (n_parts : Int) (n_wanted : Int) (l1 : Int) (l2 : Int) (l3 : Int) : Prop := (∀ x7 : Int, x7 = (min l3 60) → wp_X2_leaveOutHopeless (fun (x28 : Int) (n_tried_28 : Int → Int) (n_triedLeave_28 : Int → Int) (n_barred_28 : Int) => ((x28 = 0 → wp_X2_prepare_75 Q n_tried_28 n_triedLeave_28 n_numbers n_weights n_weightsAhead n_grains n_placeFrom n_barred_28 x7 0 n_parts 0) ∧
  (¬ (x28 = 0) → wp_X2_findParts (fun (x35 : Int) (n_parts_35 : Int) => ((x35 = 0 → wp_X2_prepare_75 Q n_tried_28 n_triedLeave_28 n_numbers n_weights n_weightsAhead n_grains n_placeFrom n_barred_28 x7 0 n_parts_35 0) ∧
  (¬ (x35 = 0) → ((l2 ≤ 0 → wp_X2_prepare_75 Q n_tried_28 n_triedLeave_28 n_numbers n_weights n_weightsAhead n_grains n_placeFrom n_barred_28 x7 0 n_parts_35 0) ∧
  (¬ (l2 ≤ 0) → (0 < l2 ∧ ((¬ (n_parts_35.tmod l2) = 0 → wp_X2_prepare_75 Q n_tried_28 n_triedLeave_28 n_numbers n_weights n_weightsAhead n_grains n_placeFrom n_barred_28 x7 0 n_parts_35 0) ∧
  ((n_parts_35.tmod l2) = 0 → (0 < l2 ∧ r64 ((n_parts_35.tdiv l2) * l1) ∧ ∀ x68 : Int, x68 = ((n_parts_35.tdiv l2) * l1) → wp_X2_weigh (fun (n_numbers_72 : Int → Int) (n_weights_72 : Int → Int) (n_weightsAhead_72 : Int → Int) (n_grains_72 : Int → Int) (n_placeFrom_72 : Int → Int) (n_size_72 : Int) => wp_X2_prepare_75 Q n_tried_28 n_triedLeave_28 n_numbers_72 n_weights_72 n_weightsAhead_72 n_grains_72 n_placeFrom_72 n_barred_28 x7 n_size_72 n_parts_35 x68) n_numbers n_weights n_weightsAhead n_grains n_placeFrom n_barred_28 x7 0 n_parts_35))))))))) n_barred_28 x7 n_parts))) n_tried n_triedLeave 0 x7 l1 l2)
set_option maxHeartbeats 4000000 in
set_option maxRecDepth 100000 in
theorem c_X2_prepare (l : Launch) (D : va_G) (cI cJ : ClassId) (zt : Nat) (hX2 : Nat) (aX2_tried : Nat) (aX2_triedLeave : Nat) (aX2_numbers : Nat) (aX2_weights : Nat) (aX2_weightsAhead : Nat) (aX2_grains : Nat) (aX2_placeFrom : Nat) (aX2_first : Nat) (n_barred : Int) (n_limit : Int) (n_size : Int) (n_parts : Int) (n_wanted : Int) (n_found : Int) (n_tried : Int → Int) (n_triedLeave : Int → Int) (n_numbers : Int → Int) (n_weights : Int → Int) (n_weightsAhead : Int → Int) (n_grains : Int → Int) (n_placeFrom : Int → Int) (l1 : Int) (l2 : Int) (l3 : Int) (Q : (Int → Int) → (Int → Int) → (Int → Int) → (Int → Int) → (Int → Int) → (Int → Int) → (Int → Int) → Int → Int → Int → Int → Int → Prop) (r_n_tried : rr32 n_tried) (r_n_triedLeave : rr64 n_triedLeave) (r_n_numbers : rr32 n_numbers) (r_n_weights : rr64 n_weights) (r_n_weightsAhead : rr64 n_weightsAhead) (r_n_grains : rr64 n_grains) (r_n_placeFrom : rr32 n_placeFrom) (r_n_barred : r64 n_barred) (r_n_limit : r32 n_limit) (r_n_size : r32 n_size) (r_n_parts : r64 n_parts) (r_n_wanted : r64 n_wanted) (r_l1 : r32 l1) (r_l2 : r32 l2) (r_l3 : r32 l3) (h : wp_X2_prepare Q n_tried n_triedLeave n_numbers n_weights n_weightsAhead n_grains n_placeFrom n_barred n_limit n_size n_parts n_wanted l1 l2 l3) : Ct l D cI cJ zt yX2_prepare cX2_prepare 4 none 6 0 0 [.ref hX2, .int (i32 l1), .int (i32 l2), .int (i32 l3)] [(hX2, .inr (2, [.ref aX2_tried, .ref aX2_triedLeave, .ref aX2_numbers, .ref aX2_weights, .ref aX2_weightsAhead, .ref aX2_grains, .ref aX2_placeFrom, .ref aX2_first, .long (i64 n_barred), .int (i32 n_limit), .int (i32 n_size), .long (i64 n_parts), .long (i64 n_wanted), .int (i32 n_found)])), (aX2_tried, aI cI 5 n_tried), (aX2_triedLeave, aL cJ 5 n_triedLeave), (aX2_numbers, aI cI 60 n_numbers), (aX2_weights, aL cJ 60 n_weights), (aX2_weightsAhead, aL cJ 61 n_weightsAhead), (aX2_grains, aL cJ 61 n_grains), (aX2_placeFrom, aI cI 61 n_placeFrom)] (po_X2_prepare cI cJ hX2 aX2_tried aX2_triedLeave aX2_numbers aX2_weights aX2_weightsAhead aX2_grains aX2_placeFrom aX2_first n_found Q) := by
  refine ct_of (by decide +kernel) (Nat.le_of_ble_eq_true rfl) (fun X hl hDD hcI hcJ hzt hR hF hnm g => ?_)
  subst hl; subst hDD; subst hcI; subst hcJ; subst hzt
  show Wat X 0 0 0 [(0, .ref hX2), (1, .int (i32 l1)), (2, .int (i32 l2)), (3, .int (i32 l3))] [] [(hX2, .inr (2, [.ref aX2_tried, .ref aX2_triedLeave, .ref aX2_numbers, .ref aX2_weights, .ref aX2_weightsAhead, .ref aX2_grains, .ref aX2_placeFrom, .ref aX2_first, .long (i64 n_barred), .int (i32 n_limit), .int (i32 n_size), .long (i64 n_parts), .long (i64 n_wanted), .int (i32 n_found)])), (aX2_tried, aI X.cI 5 n_tried), (aX2_triedLeave, aL X.cJ 5 n_triedLeave), (aX2_numbers, aI X.cI 60 n_numbers), (aX2_weights, aL X.cJ 60 n_weights), (aX2_weightsAhead, aL X.cJ 61 n_weightsAhead), (aX2_grains, aL X.cJ 61 n_grains), (aX2_placeFrom, aI X.cI 61 n_placeFrom)]
  replace g : Gd X cX2_prepare RX2 none 4 := g
  rw [wp_X2_prepare] at h
  refine q_aload_n g 0 0 rfl dX2_prepare_0 ?_
  refine q_iload_n g 3 3 rfl dX2_prepare_1 ?_
  refine q_bipush g (60) (by decide) (by decide) dX2_prepare_2 ?_
  refine q_mminI g 39 r_l3 (r32_lit _ (by decide)) wM_X2_39 wT_J9_min_7cf53 wZ_J9 wC_J9_min_7cf53 (by rw [hR]; exact ⟨by show 1 ≤ 6; omega, by show 100 ≤ 100 * 6; omega, Nat.le_refl _, Nat.le_refl _⟩) (Nat.le_of_ble_eq_true rfl) dX2_prepare_4 ?_
  refine q_topi (r32_min r_l3 (r32_lit _ (by decide))) (fun x7 ex7 rx7 => ?_)
  replace h := h x7 ex7
  refine q_put (C := RX2) (T := TX2) (N := 14) (ty := .int) (ws' := [(hX2, .inr (2, [.ref aX2_tried, .ref aX2_triedLeave, .ref aX2_numbers, .ref aX2_weights, .ref aX2_weightsAhead, .ref aX2_grains, .ref aX2_placeFrom, .ref aX2_first, .long (i64 n_barred), .int (i32 x7), .int (i32 n_size), .long (i64 n_parts), .long (i64 n_wanted), .int (i32 n_found)])), (aX2_tried, aI X.cI 5 n_tried), (aX2_triedLeave, aL X.cJ 5 n_triedLeave), (aX2_numbers, aI X.cI 60 n_numbers), (aX2_weights, aL X.cJ 60 n_weights), (aX2_weightsAhead, aL X.cJ 61 n_weightsAhead), (aX2_grains, aL X.cJ 61 n_grains), (aX2_placeFrom, aI X.cI 61 n_placeFrom)]) g 45 inX2 tyX2_ok nmX2 0 9 rfl rfl (by decide) wF_X2_45 rfl rfl rfl rfl (Nat.le_of_ble_eq_true rfl) rfl dX2_prepare_7 ?_
  refine q_aload_n g 0 0 rfl dX2_prepare_10 ?_
  refine q_iconst g (0) dX2_prepare_11 ?_
  refine q_put (C := RX2) (T := TX2) (N := 14) (ty := .int) (ws' := [(hX2, .inr (2, [.ref aX2_tried, .ref aX2_triedLeave, .ref aX2_numbers, .ref aX2_weights, .ref aX2_weightsAhead, .ref aX2_grains, .ref aX2_placeFrom, .ref aX2_first, .long (i64 n_barred), .int (i32 x7), .int (i32 0), .long (i64 n_parts), .long (i64 n_wanted), .int (i32 n_found)])), (aX2_tried, aI X.cI 5 n_tried), (aX2_triedLeave, aL X.cJ 5 n_triedLeave), (aX2_numbers, aI X.cI 60 n_numbers), (aX2_weights, aL X.cJ 60 n_weights), (aX2_weightsAhead, aL X.cJ 61 n_weightsAhead), (aX2_grains, aL X.cJ 61 n_grains), (aX2_placeFrom, aI X.cI 61 n_placeFrom)]) g 49 inX2 tyX2_ok nmX2 0 10 rfl rfl (by decide) wF_X2_49 rfl rfl rfl rfl (Nat.le_of_ble_eq_true rfl) rfl dX2_prepare_12 ?_
  refine q_aload_n g 0 0 rfl dX2_prepare_15 ?_
  refine q_lconst g 0 0 rfl dX2_prepare_16 ?_
  refine q_put (C := RX2) (T := TX2) (N := 14) (ty := .long) (ws' := [(hX2, .inr (2, [.ref aX2_tried, .ref aX2_triedLeave, .ref aX2_numbers, .ref aX2_weights, .ref aX2_weightsAhead, .ref aX2_grains, .ref aX2_placeFrom, .ref aX2_first, .long (i64 n_barred), .int (i32 x7), .int (i32 0), .long (i64 n_parts), .long (i64 0), .int (i32 n_found)])), (aX2_tried, aI X.cI 5 n_tried), (aX2_triedLeave, aL X.cJ 5 n_triedLeave), (aX2_numbers, aI X.cI 60 n_numbers), (aX2_weights, aL X.cJ 60 n_weights), (aX2_weightsAhead, aL X.cJ 61 n_weightsAhead), (aX2_grains, aL X.cJ 61 n_grains), (aX2_placeFrom, aI X.cI 61 n_placeFrom)]) g 52 inX2 tyX2_ok nmX2 0 12 rfl rfl (by decide) wF_X2_52 rfl rfl rfl rfl (Nat.le_of_ble_eq_true rfl) rfl dX2_prepare_17 ?_
  refine q_aload_n g 0 0 rfl dX2_prepare_20 ?_
  refine q_lconst g 0 0 rfl dX2_prepare_21 ?_
  refine q_put (C := RX2) (T := TX2) (N := 14) (ty := .long) (ws' := [(hX2, .inr (2, [.ref aX2_tried, .ref aX2_triedLeave, .ref aX2_numbers, .ref aX2_weights, .ref aX2_weightsAhead, .ref aX2_grains, .ref aX2_placeFrom, .ref aX2_first, .long (i64 0), .int (i32 x7), .int (i32 0), .long (i64 n_parts), .long (i64 0), .int (i32 n_found)])), (aX2_tried, aI X.cI 5 n_tried), (aX2_triedLeave, aL X.cJ 5 n_triedLeave), (aX2_numbers, aI X.cI 60 n_numbers), (aX2_weights, aL X.cJ 60 n_weights), (aX2_weightsAhead, aL X.cJ 61 n_weightsAhead), (aX2_grains, aL X.cJ 61 n_grains), (aX2_placeFrom, aI X.cI 61 n_placeFrom)]) g 56 inX2 tyX2_ok nmX2 0 8 rfl rfl (by decide) wF_X2_56 rfl rfl rfl rfl (Nat.le_of_ble_eq_true rfl) rfl dX2_prepare_22 ?_
  refine q_aload_n g 0 0 rfl dX2_prepare_25 ?_
  refine q_iload_n g 1 1 rfl dX2_prepare_26 ?_
  refine q_iload_n g 2 2 rfl dX2_prepare_27 ?_
  refine q_callV (lev := 5) (mc := 0) (ms := 0) g 59 (c_X2_leaveOutHopeless X.l X.D X.cI X.cJ X.zt hX2 aX2_tried aX2_triedLeave aX2_numbers aX2_weights aX2_weightsAhead aX2_grains aX2_placeFrom aX2_first 0 x7 0 n_parts 0 n_found n_tried n_triedLeave l1 l2 _ r_n_tried r_n_triedLeave (r64_lit _ (by decide)) rx7 r_l1 r_l2 h) (wr := [(aX2_numbers, aI X.cI 60 n_numbers), (aX2_weights, aL X.cJ 60 n_weights), (aX2_weightsAhead, aL X.cJ 61 n_weightsAhead), (aX2_grains, aL X.cJ 61 n_grains), (aX2_placeFrom, aI X.cI 61 n_placeFrom)]) [0, 1, 2] [3, 4, 5, 6, 7] rfl rfl rfl (by decide) (by decide) (by decide) (ci := 2) rfl rfl rfl wM_X2_59 wI_X2_leaveOutHopeless wS_X2_leaveOutHopeless wZ_X2 wC_X2_leaveOutHopeless 2 rfl (by decide +kernel) (by rw [hR]; exact ⟨by show 5 + 1 ≤ 6; omega, by show 8 + (7 + 11) + 100 * 5 ≤ 100 * 6; omega⟩) (by rw [hR]; exact ⟨Nat.le_refl _, Nat.le_refl _⟩) (Nat.le_of_ble_eq_true rfl) rfl dX2_prepare_28 (fun rv w1 hq => ?_)
  obtain ⟨x28, n_tried_28, n_triedLeave_28, n_barred_28, rfl, rfl, rx28, rn_tried_28, rn_triedLeave_28, rn_barred_28, h⟩ := hq
  refine q_ws (ws' := [(hX2, .inr (2, [.ref aX2_tried, .ref aX2_triedLeave, .ref aX2_numbers, .ref aX2_weights, .ref aX2_weightsAhead, .ref aX2_grains, .ref aX2_placeFrom, .ref aX2_first, .long (i64 n_barred_28), .int (i32 x7), .int (i32 0), .long (i64 n_parts), .long (i64 0), .int (i32 n_found)])), (aX2_tried, aI X.cI 5 n_tried_28), (aX2_triedLeave, aL X.cJ 5 n_triedLeave_28), (aX2_numbers, aI X.cI 60 n_numbers), (aX2_weights, aL X.cJ 60 n_weights), (aX2_weightsAhead, aL X.cJ 61 n_weightsAhead), (aX2_grains, aL X.cJ 61 n_grains), (aX2_placeFrom, aI X.cI 61 n_placeFrom)]) [5, 6, 7, 0, 1, 2, 3, 4] (by decide) rfl rfl ?_
  show Wat X 0 0 31 [(0, .ref hX2), (1, .int (i32 l1)), (2, .int (i32 l2)), (3, .int (i32 l3))] [.int (i32 x28)] [(hX2, .inr (2, [.ref aX2_tried, .ref aX2_triedLeave, .ref aX2_numbers, .ref aX2_weights, .ref aX2_weightsAhead, .ref aX2_grains, .ref aX2_placeFrom, .ref aX2_first, .long (i64 n_barred_28), .int (i32 x7), .int (i32 0), .long (i64 n_parts), .long (i64 0), .int (i32 n_found)])), (aX2_tried, aI X.cI 5 n_tried_28), (aX2_triedLeave, aL X.cJ 5 n_triedLeave_28), (aX2_numbers, aI X.cI 60 n_numbers), (aX2_weights, aL X.cJ 60 n_weights), (aX2_weightsAhead, aL X.cJ 61 n_weightsAhead), (aX2_grains, aL X.cJ 61 n_grains), (aX2_placeFrom, aI X.cI 61 n_placeFrom)]
  refine q_if_eq g (44) 75 rx28 (by decide) dX2_prepare_31 (fun b31 => ?_) (fun b31 => ?_)
  · replace h := h.1 b31
    refine q_lv (lv' := []) [] rfl ?_
    exact s_X2_prepare_75 g hR hX2 aX2_tried aX2_triedLeave aX2_numbers aX2_weights aX2_weightsAhead aX2_grains aX2_placeFrom aX2_first n_found Q hF n_tried_28 n_triedLeave_28 n_numbers n_weights n_weightsAhead n_grains n_placeFrom n_barred_28 x7 0 n_parts 0 rn_tried_28 rn_triedLeave_28 r_n_numbers r_n_weights r_n_weightsAhead r_n_grains r_n_placeFrom rn_barred_28 rx7 (r32_lit _ (by decide)) r_n_parts (r64_lit _ (by decide)) h
  replace h := h.2 b31
  refine q_aload_n g 0 0 rfl dX2_prepare_34 ?_
  refine q_callV (lev := 3) (mc := 0) (ms := 0) g 63 (c_X2_findParts X.l X.D X.cI X.cJ X.zt hX2 aX2_tried aX2_triedLeave aX2_numbers aX2_weights aX2_weightsAhead aX2_grains aX2_placeFrom aX2_first n_barred_28 x7 0 n_parts 0 n_found _ rn_barred_28 rx7 r_n_parts h) (wr := [(aX2_tried, aI X.cI 5 n_tried_28), (aX2_triedLeave, aL X.cJ 5 n_triedLeave_28), (aX2_numbers, aI X.cI 60 n_numbers), (aX2_weights, aL X.cJ 60 n_weights), (aX2_weightsAhead, aL X.cJ 61 n_weightsAhead), (aX2_grains, aL X.cJ 61 n_grains), (aX2_placeFrom, aI X.cI 61 n_placeFrom)]) [0] [1, 2, 3, 4, 5, 6, 7] rfl rfl rfl (by decide) (by decide) (by decide) (ci := 2) rfl rfl rfl wM_X2_63 wI_X2_findParts wS_X2_findParts wZ_X2 wC_X2_findParts 0 rfl (by decide +kernel) (by rw [hR]; exact ⟨by show 3 + 1 ≤ 6; omega, by show 8 + (2 + 11) + 100 * 3 ≤ 100 * 6; omega⟩) (by rw [hR]; exact ⟨Nat.le_refl _, Nat.le_refl _⟩) (Nat.le_of_ble_eq_true rfl) rfl dX2_prepare_35 (fun rv w1 hq => ?_)
  obtain ⟨x35, n_parts_35, rfl, rfl, rx35, rn_parts_35, h⟩ := hq
  refine q_ws (ws' := [(hX2, .inr (2, [.ref aX2_tried, .ref aX2_triedLeave, .ref aX2_numbers, .ref aX2_weights, .ref aX2_weightsAhead, .ref aX2_grains, .ref aX2_placeFrom, .ref aX2_first, .long (i64 n_barred_28), .int (i32 x7), .int (i32 0), .long (i64 n_parts_35), .long (i64 0), .int (i32 n_found)])), (aX2_tried, aI X.cI 5 n_tried_28), (aX2_triedLeave, aL X.cJ 5 n_triedLeave_28), (aX2_numbers, aI X.cI 60 n_numbers), (aX2_weights, aL X.cJ 60 n_weights), (aX2_weightsAhead, aL X.cJ 61 n_weightsAhead), (aX2_grains, aL X.cJ 61 n_grains), (aX2_placeFrom, aI X.cI 61 n_placeFrom)]) [7, 0, 1, 2, 3, 4, 5, 6] (by decide) rfl rfl ?_
  show Wat X 0 0 38 [(0, .ref hX2), (1, .int (i32 l1)), (2, .int (i32 l2)), (3, .int (i32 l3))] [.int (i32 x35)] [(hX2, .inr (2, [.ref aX2_tried, .ref aX2_triedLeave, .ref aX2_numbers, .ref aX2_weights, .ref aX2_weightsAhead, .ref aX2_grains, .ref aX2_placeFrom, .ref aX2_first, .long (i64 n_barred_28), .int (i32 x7), .int (i32 0), .long (i64 n_parts_35), .long (i64 0), .int (i32 n_found)])), (aX2_tried, aI X.cI 5 n_tried_28), (aX2_triedLeave, aL X.cJ 5 n_triedLeave_28), (aX2_numbers, aI X.cI 60 n_numbers), (aX2_weights, aL X.cJ 60 n_weights), (aX2_weightsAhead, aL X.cJ 61 n_weightsAhead), (aX2_grains, aL X.cJ 61 n_grains), (aX2_placeFrom, aI X.cI 61 n_placeFrom)]
  refine q_if_eq g (37) 75 rx35 (by decide) dX2_prepare_38 (fun b38 => ?_) (fun b38 => ?_)
  · replace h := h.1 b38
    refine q_lv (lv' := []) [] rfl ?_
    exact s_X2_prepare_75 g hR hX2 aX2_tried aX2_triedLeave aX2_numbers aX2_weights aX2_weightsAhead aX2_grains aX2_placeFrom aX2_first n_found Q hF n_tried_28 n_triedLeave_28 n_numbers n_weights n_weightsAhead n_grains n_placeFrom n_barred_28 x7 0 n_parts_35 0 rn_tried_28 rn_triedLeave_28 r_n_numbers r_n_weights r_n_weightsAhead r_n_grains r_n_placeFrom rn_barred_28 rx7 (r32_lit _ (by decide)) rn_parts_35 (r64_lit _ (by decide)) h
  replace h := h.2 b38
  refine q_iload_n g 2 2 rfl dX2_prepare_41 ?_
  refine q_if_le g (33) 75 r_l2 (by decide) dX2_prepare_42 (fun b42 => ?_) (fun b42 => ?_)
  · replace h := h.1 b42
    refine q_lv (lv' := []) [] rfl ?_
    exact s_X2_prepare_75 g hR hX2 aX2_tried aX2_triedLeave aX2_numbers aX2_weights aX2_weightsAhead aX2_grains aX2_placeFrom aX2_first n_found Q hF n_tried_28 n_triedLeave_28 n_numbers n_weights n_weightsAhead n_grains n_placeFrom n_barred_28 x7 0 n_parts_35 0 rn_tried_28 rn_triedLeave_28 r_n_numbers r_n_weights r_n_weightsAhead r_n_grains r_n_placeFrom rn_barred_28 rx7 (r32_lit _ (by decide)) rn_parts_35 (r64_lit _ (by decide)) h
  replace h := h.2 b42
  refine q_aload_n g 0 0 rfl dX2_prepare_45 ?_
  refine q_get (C := RX2) (T := TX2) (N := 14) g 67 inX2 0 11 rfl rfl (by decide) wF_X2_67 rfl dX2_prepare_46 ?_
  refine q_iload_n g 2 2 rfl dX2_prepare_49 ?_
  refine q_i2l g r_l2 dX2_prepare_50 ?_
  obtain ⟨c51, h⟩ := h
  refine q_lrem g rn_parts_35 (r32_64 r_l2) (ne_of_pos c51) dX2_prepare_51 ?_
  refine q_lconst g 0 0 rfl dX2_prepare_52 ?_
  refine q_lcmp_ne g (21) 75 (r64_tmod rn_parts_35 (r32_64 r_l2) (ne_of_pos c51)) (r64_lit _ (by decide)) (by decide) dX2_prepare_53 dX2_prepare_54 (fun b53 => ?_) (fun b53 => ?_)
  · replace h := h.1 b53
    refine q_lv (lv' := []) [] rfl ?_
    exact s_X2_prepare_75 g hR hX2 aX2_tried aX2_triedLeave aX2_numbers aX2_weights aX2_weightsAhead aX2_grains aX2_placeFrom aX2_first n_found Q hF n_tried_28 n_triedLeave_28 n_numbers n_weights n_weightsAhead n_grains n_placeFrom n_barred_28 x7 0 n_parts_35 0 rn_tried_28 rn_triedLeave_28 r_n_numbers r_n_weights r_n_weightsAhead r_n_grains r_n_placeFrom rn_barred_28 rx7 (r32_lit _ (by decide)) rn_parts_35 (r64_lit _ (by decide)) h
  replace h := h.2 b53
  refine q_aload_n g 0 0 rfl dX2_prepare_57 ?_
  refine q_aload_n g 0 0 rfl dX2_prepare_58 ?_
  refine q_get (C := RX2) (T := TX2) (N := 14) g 67 inX2 0 11 rfl rfl (by decide) wF_X2_67 rfl dX2_prepare_59 ?_
  refine q_iload_n g 2 2 rfl dX2_prepare_62 ?_
  refine q_i2l g r_l2 dX2_prepare_63 ?_
  obtain ⟨c64, h⟩ := h
  refine q_ldiv g rn_parts_35 (r32_64 r_l2) (ne_of_pos c64) dX2_prepare_64 ?_
  refine q_iload_n g 1 1 rfl dX2_prepare_65 ?_
  refine q_i2l g r_l1 dX2_prepare_66 ?_
  obtain ⟨c67, h⟩ := h
  refine q_lmul g dX2_prepare_67 ?_
  refine q_topl c67 (fun x68 ex68 rx68 => ?_)
  replace h := h x68 ex68
  refine q_put (C := RX2) (T := TX2) (N := 14) (ty := .long) (ws' := [(hX2, .inr (2, [.ref aX2_tried, .ref aX2_triedLeave, .ref aX2_numbers, .ref aX2_weights, .ref aX2_weightsAhead, .ref aX2_grains, .ref aX2_placeFrom, .ref aX2_first, .long (i64 n_barred_28), .int (i32 x7), .int (i32 0), .long (i64 n_parts_35), .long (i64 x68), .int (i32 n_found)])), (aX2_tried, aI X.cI 5 n_tried_28), (aX2_triedLeave, aL X.cJ 5 n_triedLeave_28), (aX2_numbers, aI X.cI 60 n_numbers), (aX2_weights, aL X.cJ 60 n_weights), (aX2_weightsAhead, aL X.cJ 61 n_weightsAhead), (aX2_grains, aL X.cJ 61 n_grains), (aX2_placeFrom, aI X.cI 61 n_placeFrom)]) g 52 inX2 tyX2_ok nmX2 0 12 rfl rfl (by decide) wF_X2_52 rfl rfl rfl rfl (Nat.le_of_ble_eq_true rfl) rfl dX2_prepare_68 ?_
  refine q_aload_n g 0 0 rfl dX2_prepare_71 ?_
  refine q_callV (lev := 3) (mc := 0) (ms := 0) g 70 (c_X2_weigh X.l X.D X.cI X.cJ X.zt hX2 aX2_tried aX2_triedLeave aX2_numbers aX2_weights aX2_weightsAhead aX2_grains aX2_placeFrom aX2_first n_barred_28 x7 0 n_parts_35 x68 n_found n_numbers n_weights n_weightsAhead n_grains n_placeFrom _ r_n_numbers r_n_weights r_n_weightsAhead r_n_grains r_n_placeFrom rn_barred_28 rx7 (r32_lit _ (by decide)) rn_parts_35 h) (wr := [(aX2_tried, aI X.cI 5 n_tried_28), (aX2_triedLeave, aL X.cJ 5 n_triedLeave_28)]) [0, 3, 4, 5, 6, 7] [1, 2] rfl rfl rfl (by decide) (by decide) (by decide) (ci := 2) rfl rfl rfl wM_X2_70 wI_X2_weigh wS_X2_weigh wZ_X2 wC_X2_weigh 0 rfl (by decide +kernel) (by rw [hR]; exact ⟨by show 3 + 1 ≤ 6; omega, by show 8 + (2 + 11) + 100 * 3 ≤ 100 * 6; omega⟩) (by rw [hR]; exact ⟨Nat.le_refl _, Nat.le_refl _⟩) (Nat.le_of_ble_eq_true rfl) rfl dX2_prepare_72 (fun rv w1 hq => ?_)
  obtain ⟨n_numbers_72, n_weights_72, n_weightsAhead_72, n_grains_72, n_placeFrom_72, n_size_72, rfl, rfl, rn_numbers_72, rn_weights_72, rn_weightsAhead_72, rn_grains_72, rn_placeFrom_72, rn_size_72, h⟩ := hq
  refine q_ws (ws' := [(hX2, .inr (2, [.ref aX2_tried, .ref aX2_triedLeave, .ref aX2_numbers, .ref aX2_weights, .ref aX2_weightsAhead, .ref aX2_grains, .ref aX2_placeFrom, .ref aX2_first, .long (i64 n_barred_28), .int (i32 x7), .int (i32 n_size_72), .long (i64 n_parts_35), .long (i64 x68), .int (i32 n_found)])), (aX2_tried, aI X.cI 5 n_tried_28), (aX2_triedLeave, aL X.cJ 5 n_triedLeave_28), (aX2_numbers, aI X.cI 60 n_numbers_72), (aX2_weights, aL X.cJ 60 n_weights_72), (aX2_weightsAhead, aL X.cJ 61 n_weightsAhead_72), (aX2_grains, aL X.cJ 61 n_grains_72), (aX2_placeFrom, aI X.cI 61 n_placeFrom_72)]) [2, 0, 1, 3, 4, 5, 6, 7] (by decide) rfl rfl ?_
  show Wat X 0 0 75 [(0, .ref hX2), (1, .int (i32 l1)), (2, .int (i32 l2)), (3, .int (i32 l3))] [] [(hX2, .inr (2, [.ref aX2_tried, .ref aX2_triedLeave, .ref aX2_numbers, .ref aX2_weights, .ref aX2_weightsAhead, .ref aX2_grains, .ref aX2_placeFrom, .ref aX2_first, .long (i64 n_barred_28), .int (i32 x7), .int (i32 n_size_72), .long (i64 n_parts_35), .long (i64 x68), .int (i32 n_found)])), (aX2_tried, aI X.cI 5 n_tried_28), (aX2_triedLeave, aL X.cJ 5 n_triedLeave_28), (aX2_numbers, aI X.cI 60 n_numbers_72), (aX2_weights, aL X.cJ 60 n_weights_72), (aX2_weightsAhead, aL X.cJ 61 n_weightsAhead_72), (aX2_grains, aL X.cJ 61 n_grains_72), (aX2_placeFrom, aI X.cI 61 n_placeFrom_72)]
  refine q_lv (lv' := []) [] rfl ?_
  exact s_X2_prepare_75 g hR hX2 aX2_tried aX2_triedLeave aX2_numbers aX2_weights aX2_weightsAhead aX2_grains aX2_placeFrom aX2_first n_found Q hF n_tried_28 n_triedLeave_28 n_numbers_72 n_weights_72 n_weightsAhead_72 n_grains_72 n_placeFrom_72 n_barred_28 x7 n_size_72 n_parts_35 x68 rn_tried_28 rn_triedLeave_28 rn_numbers_72 rn_weights_72 rn_weightsAhead_72 rn_grains_72 rn_placeFrom_72 rn_barred_28 rx7 rn_size_72 rn_parts_35 rx68 h
